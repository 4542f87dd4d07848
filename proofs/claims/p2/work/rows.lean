section
-- ===== PART A: goes FIRST, ahead of the names: the tables' words, and 'selects' of the private methods out of them =====
/-- a private method of a class that the tables say can be made, by its rows of tables_1 -/
def lw_okq (q : MethodName × Nat) : Prop := (q.1.cls ≠ "java/lang/invoke/MethodHandle" ∧ q.1.cls ≠ "java/lang/invoke/VarHandle") ∧ Cond.instantiable q.1.cls q.2 ∈ tables_1 ∧ Cond.privateMethod q.1 ∈ tables_1 ∧ Cond.instanceMethod q.1 ∈ tables_1
theorem lw_p0 : lw_okq (⟨"Factloom", "headsChanged", "()V"⟩, 16) := ⟨⟨by decide +kernel, by decide +kernel⟩, List.mem_of_getElem? (i := 40) (by decide +kernel), List.mem_of_getElem? (i := 356) (by decide +kernel), List.mem_of_getElem? (i := 357) (by decide +kernel)⟩
theorem lw_p1 : lw_okq (⟨"Factloom", "rulesChanged", "()V"⟩, 16) := ⟨⟨by decide +kernel, by decide +kernel⟩, List.mem_of_getElem? (i := 40) (by decide +kernel), List.mem_of_getElem? (i := 372) (by decide +kernel), List.mem_of_getElem? (i := 373) (by decide +kernel)⟩
theorem lw_p2 : lw_okq (⟨"Factloom", "toldChanged", "()V"⟩, 16) := ⟨⟨by decide +kernel, by decide +kernel⟩, List.mem_of_getElem? (i := 40) (by decide +kernel), List.mem_of_getElem? (i := 376) (by decide +kernel), List.mem_of_getElem? (i := 377) (by decide +kernel)⟩
theorem lw_p3 : lw_okq (⟨"Factloom", "settleAnswers", "()V"⟩, 16) := ⟨⟨by decide +kernel, by decide +kernel⟩, List.mem_of_getElem? (i := 40) (by decide +kernel), List.mem_of_getElem? (i := 409) (by decide +kernel), List.mem_of_getElem? (i := 410) (by decide +kernel)⟩
theorem lw_p4 : lw_okq (⟨"Factloom", "settleHeld", "()V"⟩, 16) := ⟨⟨by decide +kernel, by decide +kernel⟩, List.mem_of_getElem? (i := 40) (by decide +kernel), List.mem_of_getElem? (i := 413) (by decide +kernel), List.mem_of_getElem? (i := 414) (by decide +kernel)⟩
theorem lw_p5 : lw_okq (⟨"Factloom$Binding", "bindFirst", "(I)I"⟩, 2) := ⟨⟨by decide +kernel, by decide +kernel⟩, List.mem_of_getElem? (i := 160) (by decide +kernel), List.mem_of_getElem? (i := 434) (by decide +kernel), List.mem_of_getElem? (i := 435) (by decide +kernel)⟩
theorem lw_p6 : lw_okq (⟨"Factloom$Grounds", "add", "(IIII)V"⟩, 6) := ⟨⟨by decide +kernel, by decide +kernel⟩, List.mem_of_getElem? (i := 154) (by decide +kernel), List.mem_of_getElem? (i := 446) (by decide +kernel), List.mem_of_getElem? (i := 447) (by decide +kernel)⟩
theorem lw_p7 : lw_okq (⟨"Factloom$Binding", "headAbove", "(I)I"⟩, 2) := ⟨⟨by decide +kernel, by decide +kernel⟩, List.mem_of_getElem? (i := 160) (by decide +kernel), List.mem_of_getElem? (i := 455) (by decide +kernel), List.mem_of_getElem? (i := 456) (by decide +kernel)⟩
theorem lw_p8 : lw_okq (⟨"Factloom$Depths", "reach", "(II)V"⟩, 3) := ⟨⟨by decide +kernel, by decide +kernel⟩, List.mem_of_getElem? (i := 203) (by decide +kernel), List.mem_of_getElem? (i := 469) (by decide +kernel), List.mem_of_getElem? (i := 470) (by decide +kernel)⟩
theorem lw_p9 : lw_okq (⟨"Factloom$Depths", "grow", "(ILFactloom$Grounds;)Z"⟩, 3) := ⟨⟨by decide +kernel, by decide +kernel⟩, List.mem_of_getElem? (i := 203) (by decide +kernel), List.mem_of_getElem? (i := 474) (by decide +kernel), List.mem_of_getElem? (i := 475) (by decide +kernel)⟩
theorem lw_p10 : lw_okq (⟨"Factloom$Origins", "countWays", "(LFactloom$Depths;LFactloom$Grounds;)V"⟩, 3) := ⟨⟨by decide +kernel, by decide +kernel⟩, List.mem_of_getElem? (i := 221) (by decide +kernel), List.mem_of_getElem? (i := 491) (by decide +kernel), List.mem_of_getElem? (i := 492) (by decide +kernel)⟩
theorem lw_p11 : lw_okq (⟨"Factloom$Origins", "startMerits", "(LFactloom$Rows;)V"⟩, 3) := ⟨⟨by decide +kernel, by decide +kernel⟩, List.mem_of_getElem? (i := 221) (by decide +kernel), List.mem_of_getElem? (i := 504) (by decide +kernel), List.mem_of_getElem? (i := 505) (by decide +kernel)⟩
theorem lw_p12 : lw_okq (⟨"Factloom$Origins", "raise", "(II)Z"⟩, 3) := ⟨⟨by decide +kernel, by decide +kernel⟩, List.mem_of_getElem? (i := 221) (by decide +kernel), List.mem_of_getElem? (i := 509) (by decide +kernel), List.mem_of_getElem? (i := 510) (by decide +kernel)⟩
theorem lw_p13 : lw_okq (⟨"Factloom$Origins", "raiseMerits", "(LFactloom$Grounds;)Z"⟩, 3) := ⟨⟨by decide +kernel, by decide +kernel⟩, List.mem_of_getElem? (i := 221) (by decide +kernel), List.mem_of_getElem? (i := 513) (by decide +kernel), List.mem_of_getElem? (i := 514) (by decide +kernel)⟩
theorem lw_p14 : lw_okq (⟨"Factloom$Question", "allHold", "(LFactloom$Depths;)Z"⟩, 9) := ⟨⟨by decide +kernel, by decide +kernel⟩, List.mem_of_getElem? (i := 240) (by decide +kernel), List.mem_of_getElem? (i := 525) (by decide +kernel), List.mem_of_getElem? (i := 526) (by decide +kernel)⟩
theorem lw_p15 : lw_okq (⟨"Factloom$Question", "isRefused", "(LFactloom$Depths;)Z"⟩, 9) := ⟨⟨by decide +kernel, by decide +kernel⟩, List.mem_of_getElem? (i := 240) (by decide +kernel), List.mem_of_getElem? (i := 532) (by decide +kernel), List.mem_of_getElem? (i := 533) (by decide +kernel)⟩
def lw_privs_1 : List (MethodName × Nat) := [(⟨"Factloom", "headsChanged", "()V"⟩, 16), (⟨"Factloom", "rulesChanged", "()V"⟩, 16), (⟨"Factloom", "toldChanged", "()V"⟩, 16), (⟨"Factloom", "settleAnswers", "()V"⟩, 16), (⟨"Factloom", "settleHeld", "()V"⟩, 16), (⟨"Factloom$Binding", "bindFirst", "(I)I"⟩, 2), (⟨"Factloom$Grounds", "add", "(IIII)V"⟩, 6), (⟨"Factloom$Binding", "headAbove", "(I)I"⟩, 2), (⟨"Factloom$Depths", "reach", "(II)V"⟩, 3), (⟨"Factloom$Depths", "grow", "(ILFactloom$Grounds;)Z"⟩, 3), (⟨"Factloom$Origins", "countWays", "(LFactloom$Depths;LFactloom$Grounds;)V"⟩, 3), (⟨"Factloom$Origins", "startMerits", "(LFactloom$Rows;)V"⟩, 3), (⟨"Factloom$Origins", "raise", "(II)Z"⟩, 3), (⟨"Factloom$Origins", "raiseMerits", "(LFactloom$Grounds;)Z"⟩, 3), (⟨"Factloom$Question", "allHold", "(LFactloom$Depths;)Z"⟩, 9), (⟨"Factloom$Question", "isRefused", "(LFactloom$Depths;)Z"⟩, 9)]
theorem lw_r1 : ∀ q ∈ lw_privs_1, lw_okq q := List.forall_mem_cons.mpr ⟨lw_p0, List.forall_mem_cons.mpr ⟨lw_p1, List.forall_mem_cons.mpr ⟨lw_p2, List.forall_mem_cons.mpr ⟨lw_p3, List.forall_mem_cons.mpr ⟨lw_p4, List.forall_mem_cons.mpr ⟨lw_p5, List.forall_mem_cons.mpr ⟨lw_p6, List.forall_mem_cons.mpr ⟨lw_p7, List.forall_mem_cons.mpr ⟨lw_p8, List.forall_mem_cons.mpr ⟨lw_p9, List.forall_mem_cons.mpr ⟨lw_p10, List.forall_mem_cons.mpr ⟨lw_p11, List.forall_mem_cons.mpr ⟨lw_p12, List.forall_mem_cons.mpr ⟨lw_p13, List.forall_mem_cons.mpr ⟨lw_p14, List.forall_mem_cons.mpr ⟨lw_p15, fun _ h => absurd h List.not_mem_nil⟩⟩⟩⟩⟩⟩⟩⟩⟩⟩⟩⟩⟩⟩⟩⟩
theorem lw_p16 : lw_okq (⟨"Factloom$Question", "coversLetters", "(I)Z"⟩, 9) := ⟨⟨by decide +kernel, by decide +kernel⟩, List.mem_of_getElem? (i := 240) (by decide +kernel), List.mem_of_getElem? (i := 567) (by decide +kernel), List.mem_of_getElem? (i := 568) (by decide +kernel)⟩
theorem lw_p17 : lw_okq (⟨"Factloom$Question", "powerOver", "(II)I"⟩, 9) := ⟨⟨by decide +kernel, by decide +kernel⟩, List.mem_of_getElem? (i := 240) (by decide +kernel), List.mem_of_getElem? (i := 572) (by decide +kernel), List.mem_of_getElem? (i := 573) (by decide +kernel)⟩
theorem lw_p18 : lw_okq (⟨"Factloom$Question", "productOf", "(I)J"⟩, 9) := ⟨⟨by decide +kernel, by decide +kernel⟩, List.mem_of_getElem? (i := 240) (by decide +kernel), List.mem_of_getElem? (i := 576) (by decide +kernel), List.mem_of_getElem? (i := 577) (by decide +kernel)⟩
theorem lw_p19 : lw_okq (⟨"Factloom", "tryBatch", "()V"⟩, 16) := ⟨⟨by decide +kernel, by decide +kernel⟩, List.mem_of_getElem? (i := 40) (by decide +kernel), List.mem_of_getElem? (i := 587) (by decide +kernel), List.mem_of_getElem? (i := 588) (by decide +kernel)⟩
theorem lw_p20 : lw_okq (⟨"Factloom$Rows", "end", "(II)V"⟩, 6) := ⟨⟨by decide +kernel, by decide +kernel⟩, List.mem_of_getElem? (i := 88) (by decide +kernel), List.mem_of_getElem? (i := 600) (by decide +kernel), List.mem_of_getElem? (i := 601) (by decide +kernel)⟩
theorem lw_p21 : lw_okq (⟨"Factloom$Rows", "begin", "(IIII)V"⟩, 6) := ⟨⟨by decide +kernel, by decide +kernel⟩, List.mem_of_getElem? (i := 88) (by decide +kernel), List.mem_of_getElem? (i := 604) (by decide +kernel), List.mem_of_getElem? (i := 605) (by decide +kernel)⟩
theorem lw_p22 : lw_okq (⟨"Factloom$Rows", "openRowOf", "(I)I"⟩, 6) := ⟨⟨by decide +kernel, by decide +kernel⟩, List.mem_of_getElem? (i := 88) (by decide +kernel), List.mem_of_getElem? (i := 608) (by decide +kernel), List.mem_of_getElem? (i := 609) (by decide +kernel)⟩
theorem lw_p23 : lw_okq (⟨"Factloom$ToldTable", "isBrokenFor", "(ILFactloom$Names;)Z"⟩, 1) := ⟨⟨by decide +kernel, by decide +kernel⟩, List.mem_of_getElem? (i := 119) (by decide +kernel), List.mem_of_getElem? (i := 619) (by decide +kernel), List.mem_of_getElem? (i := 620) (by decide +kernel)⟩
theorem lw_p24 : lw_okq (⟨"Factloom", "isAllSound", "()Z"⟩, 16) := ⟨⟨by decide +kernel, by decide +kernel⟩, List.mem_of_getElem? (i := 40) (by decide +kernel), List.mem_of_getElem? (i := 634) (by decide +kernel), List.mem_of_getElem? (i := 635) (by decide +kernel)⟩
theorem lw_p25 : lw_okq (⟨"Factloom", "areTriplesSound", "()Z"⟩, 16) := ⟨⟨by decide +kernel, by decide +kernel⟩, List.mem_of_getElem? (i := 40) (by decide +kernel), List.mem_of_getElem? (i := 638) (by decide +kernel), List.mem_of_getElem? (i := 639) (by decide +kernel)⟩
theorem lw_p26 : lw_okq (⟨"Factloom", "storeNumber", "(I)I"⟩, 16) := ⟨⟨by decide +kernel, by decide +kernel⟩, List.mem_of_getElem? (i := 40) (by decide +kernel), List.mem_of_getElem? (i := 655) (by decide +kernel), List.mem_of_getElem? (i := 656) (by decide +kernel)⟩
theorem lw_p27 : lw_okq (⟨"Factloom", "mixHeld", "(J)J"⟩, 16) := ⟨⟨by decide +kernel, by decide +kernel⟩, List.mem_of_getElem? (i := 40) (by decide +kernel), List.mem_of_getElem? (i := 664) (by decide +kernel), List.mem_of_getElem? (i := 665) (by decide +kernel)⟩
theorem lw_p28 : lw_okq (⟨"Factloom", "factNumber", "(II)I"⟩, 16) := ⟨⟨by decide +kernel, by decide +kernel⟩, List.mem_of_getElem? (i := 40) (by decide +kernel), List.mem_of_getElem? (i := 668) (by decide +kernel), List.mem_of_getElem? (i := 669) (by decide +kernel)⟩
theorem lw_p29 : lw_okq (⟨"Factloom", "mixAnswers", "(J)J"⟩, 16) := ⟨⟨by decide +kernel, by decide +kernel⟩, List.mem_of_getElem? (i := 40) (by decide +kernel), List.mem_of_getElem? (i := 678) (by decide +kernel), List.mem_of_getElem? (i := 679) (by decide +kernel)⟩
theorem lw_p30 : lw_okq (⟨"Factloom", "toldCount", "(I)I"⟩, 16) := ⟨⟨by decide +kernel, by decide +kernel⟩, List.mem_of_getElem? (i := 40) (by decide +kernel), List.mem_of_getElem? (i := 682) (by decide +kernel), List.mem_of_getElem? (i := 683) (by decide +kernel)⟩
theorem lw_p31 : lw_okq (⟨"Factloom", "chainLength", "(III)I"⟩, 16) := ⟨⟨by decide +kernel, by decide +kernel⟩, List.mem_of_getElem? (i := 40) (by decide +kernel), List.mem_of_getElem? (i := 687) (by decide +kernel), List.mem_of_getElem? (i := 688) (by decide +kernel)⟩
def lw_privs_2 : List (MethodName × Nat) := [(⟨"Factloom$Question", "coversLetters", "(I)Z"⟩, 9), (⟨"Factloom$Question", "powerOver", "(II)I"⟩, 9), (⟨"Factloom$Question", "productOf", "(I)J"⟩, 9), (⟨"Factloom", "tryBatch", "()V"⟩, 16), (⟨"Factloom$Rows", "end", "(II)V"⟩, 6), (⟨"Factloom$Rows", "begin", "(IIII)V"⟩, 6), (⟨"Factloom$Rows", "openRowOf", "(I)I"⟩, 6), (⟨"Factloom$ToldTable", "isBrokenFor", "(ILFactloom$Names;)Z"⟩, 1), (⟨"Factloom", "isAllSound", "()Z"⟩, 16), (⟨"Factloom", "areTriplesSound", "()Z"⟩, 16), (⟨"Factloom", "storeNumber", "(I)I"⟩, 16), (⟨"Factloom", "mixHeld", "(J)J"⟩, 16), (⟨"Factloom", "factNumber", "(II)I"⟩, 16), (⟨"Factloom", "mixAnswers", "(J)J"⟩, 16), (⟨"Factloom", "toldCount", "(I)I"⟩, 16), (⟨"Factloom", "chainLength", "(III)I"⟩, 16)]
theorem lw_r2 : ∀ q ∈ lw_privs_2, lw_okq q := List.forall_mem_cons.mpr ⟨lw_p16, List.forall_mem_cons.mpr ⟨lw_p17, List.forall_mem_cons.mpr ⟨lw_p18, List.forall_mem_cons.mpr ⟨lw_p19, List.forall_mem_cons.mpr ⟨lw_p20, List.forall_mem_cons.mpr ⟨lw_p21, List.forall_mem_cons.mpr ⟨lw_p22, List.forall_mem_cons.mpr ⟨lw_p23, List.forall_mem_cons.mpr ⟨lw_p24, List.forall_mem_cons.mpr ⟨lw_p25, List.forall_mem_cons.mpr ⟨lw_p26, List.forall_mem_cons.mpr ⟨lw_p27, List.forall_mem_cons.mpr ⟨lw_p28, List.forall_mem_cons.mpr ⟨lw_p29, List.forall_mem_cons.mpr ⟨lw_p30, List.forall_mem_cons.mpr ⟨lw_p31, fun _ h => absurd h List.not_mem_nil⟩⟩⟩⟩⟩⟩⟩⟩⟩⟩⟩⟩⟩⟩⟩⟩
theorem lw_p32 : lw_okq (⟨"Factloom", "behind", "(II)I"⟩, 16) := ⟨⟨by decide +kernel, by decide +kernel⟩, List.mem_of_getElem? (i := 40) (by decide +kernel), List.mem_of_getElem? (i := 692) (by decide +kernel), List.mem_of_getElem? (i := 693) (by decide +kernel)⟩
theorem lw_p33 : lw_okq (⟨"java/lang/Throwable", "fillInStackTrace", "(I)Ljava/lang/Throwable;"⟩, 6) := ⟨⟨by decide +kernel, by decide +kernel⟩, List.mem_of_getElem? (i := 759) (by decide +kernel), List.mem_of_getElem? (i := 757) (by decide +kernel), List.mem_of_getElem? (i := 758) (by decide +kernel)⟩
theorem lw_p34 : lw_okq (⟨"Factloom", "checkBatchRoom", "()V"⟩, 16) := ⟨⟨by decide +kernel, by decide +kernel⟩, List.mem_of_getElem? (i := 40) (by decide +kernel), List.mem_of_getElem? (i := 790) (by decide +kernel), List.mem_of_getElem? (i := 791) (by decide +kernel)⟩
theorem lw_p35 : lw_okq (⟨"Factloom", "checkMoment", "(I)V"⟩, 16) := ⟨⟨by decide +kernel, by decide +kernel⟩, List.mem_of_getElem? (i := 40) (by decide +kernel), List.mem_of_getElem? (i := 950) (by decide +kernel), List.mem_of_getElem? (i := 951) (by decide +kernel)⟩
theorem lw_p36 : lw_okq (⟨"Factloom", "originText", "(I)Ljava/lang/String;"⟩, 16) := ⟨⟨by decide +kernel, by decide +kernel⟩, List.mem_of_getElem? (i := 40) (by decide +kernel), List.mem_of_getElem? (i := 994) (by decide +kernel), List.mem_of_getElem? (i := 995) (by decide +kernel)⟩
theorem lw_p37 : lw_okq (⟨"FactloomModel", "refuse", "(I)I"⟩, 12) := ⟨⟨by decide +kernel, by decide +kernel⟩, List.mem_of_getElem? (i := 1279) (by decide +kernel), List.mem_of_getElem? (i := 1368) (by decide +kernel), List.mem_of_getElem? (i := 1369) (by decide +kernel)⟩
theorem lw_p38 : lw_okq (⟨"java/util/ArrayList", "add", "(Ljava/lang/Object;[Ljava/lang/Object;I)V"⟩, 3) := ⟨⟨by decide +kernel, by decide +kernel⟩, List.mem_of_getElem? (i := 1285) (by decide +kernel), List.mem_of_getElem? (i := 1380) (by decide +kernel), List.mem_of_getElem? (i := 1381) (by decide +kernel)⟩
theorem lw_p39 : lw_okq (⟨"java/util/ArrayList", "grow", "()[Ljava/lang/Object;"⟩, 3) := ⟨⟨by decide +kernel, by decide +kernel⟩, List.mem_of_getElem? (i := 1285) (by decide +kernel), List.mem_of_getElem? (i := 1384) (by decide +kernel), List.mem_of_getElem? (i := 1385) (by decide +kernel)⟩
theorem lw_p40 : lw_okq (⟨"java/util/ArrayList", "grow", "(I)[Ljava/lang/Object;"⟩, 3) := ⟨⟨by decide +kernel, by decide +kernel⟩, List.mem_of_getElem? (i := 1285) (by decide +kernel), List.mem_of_getElem? (i := 1388) (by decide +kernel), List.mem_of_getElem? (i := 1389) (by decide +kernel)⟩
theorem lw_p41 : lw_okq (⟨"FactloomModel", "committed", "()Ljava/util/ArrayList;"⟩, 12) := ⟨⟨by decide +kernel, by decide +kernel⟩, List.mem_of_getElem? (i := 1279) (by decide +kernel), List.mem_of_getElem? (i := 1446) (by decide +kernel), List.mem_of_getElem? (i := 1447) (by decide +kernel)⟩
theorem lw_p42 : lw_okq (⟨"FactloomModel", "place", "(I)I"⟩, 12) := ⟨⟨by decide +kernel, by decide +kernel⟩, List.mem_of_getElem? (i := 1279) (by decide +kernel), List.mem_of_getElem? (i := 1522) (by decide +kernel), List.mem_of_getElem? (i := 1523) (by decide +kernel)⟩
theorem lw_p43 : lw_okq (⟨"FactloomModel", "place", "(I[I)I"⟩, 12) := ⟨⟨by decide +kernel, by decide +kernel⟩, List.mem_of_getElem? (i := 1279) (by decide +kernel), List.mem_of_getElem? (i := 1529) (by decide +kernel), List.mem_of_getElem? (i := 1530) (by decide +kernel)⟩
theorem lw_p44 : lw_okq (⟨"FactloomModel", "broken", "(Ljava/util/ArrayList;I)I"⟩, 12) := ⟨⟨by decide +kernel, by decide +kernel⟩, List.mem_of_getElem? (i := 1279) (by decide +kernel), List.mem_of_getElem? (i := 1534) (by decide +kernel), List.mem_of_getElem? (i := 1535) (by decide +kernel)⟩
theorem lw_p45 : lw_okq (⟨"FactloomModel", "told", "(Ljava/util/ArrayList;II)[Z"⟩, 12) := ⟨⟨by decide +kernel, by decide +kernel⟩, List.mem_of_getElem? (i := 1279) (by decide +kernel), List.mem_of_getElem? (i := 1538) (by decide +kernel), List.mem_of_getElem? (i := 1539) (by decide +kernel)⟩
theorem lw_p46 : lw_okq (⟨"FactloomModel", "forget", "()V"⟩, 12) := ⟨⟨by decide +kernel, by decide +kernel⟩, List.mem_of_getElem? (i := 1279) (by decide +kernel), List.mem_of_getElem? (i := 1542) (by decide +kernel), List.mem_of_getElem? (i := 1543) (by decide +kernel)⟩
theorem lw_p47 : lw_okq (⟨"FactloomModel", "countHeads", "()I"⟩, 12) := ⟨⟨by decide +kernel, by decide +kernel⟩, List.mem_of_getElem? (i := 1279) (by decide +kernel), List.mem_of_getElem? (i := 1559) (by decide +kernel), List.mem_of_getElem? (i := 1560) (by decide +kernel)⟩
def lw_privs_3 : List (MethodName × Nat) := [(⟨"Factloom", "behind", "(II)I"⟩, 16), (⟨"java/lang/Throwable", "fillInStackTrace", "(I)Ljava/lang/Throwable;"⟩, 6), (⟨"Factloom", "checkBatchRoom", "()V"⟩, 16), (⟨"Factloom", "checkMoment", "(I)V"⟩, 16), (⟨"Factloom", "originText", "(I)Ljava/lang/String;"⟩, 16), (⟨"FactloomModel", "refuse", "(I)I"⟩, 12), (⟨"java/util/ArrayList", "add", "(Ljava/lang/Object;[Ljava/lang/Object;I)V"⟩, 3), (⟨"java/util/ArrayList", "grow", "()[Ljava/lang/Object;"⟩, 3), (⟨"java/util/ArrayList", "grow", "(I)[Ljava/lang/Object;"⟩, 3), (⟨"FactloomModel", "committed", "()Ljava/util/ArrayList;"⟩, 12), (⟨"FactloomModel", "place", "(I)I"⟩, 12), (⟨"FactloomModel", "place", "(I[I)I"⟩, 12), (⟨"FactloomModel", "broken", "(Ljava/util/ArrayList;I)I"⟩, 12), (⟨"FactloomModel", "told", "(Ljava/util/ArrayList;II)[Z"⟩, 12), (⟨"FactloomModel", "forget", "()V"⟩, 12), (⟨"FactloomModel", "countHeads", "()I"⟩, 12)]
theorem lw_r3 : ∀ q ∈ lw_privs_3, lw_okq q := List.forall_mem_cons.mpr ⟨lw_p32, List.forall_mem_cons.mpr ⟨lw_p33, List.forall_mem_cons.mpr ⟨lw_p34, List.forall_mem_cons.mpr ⟨lw_p35, List.forall_mem_cons.mpr ⟨lw_p36, List.forall_mem_cons.mpr ⟨lw_p37, List.forall_mem_cons.mpr ⟨lw_p38, List.forall_mem_cons.mpr ⟨lw_p39, List.forall_mem_cons.mpr ⟨lw_p40, List.forall_mem_cons.mpr ⟨lw_p41, List.forall_mem_cons.mpr ⟨lw_p42, List.forall_mem_cons.mpr ⟨lw_p43, List.forall_mem_cons.mpr ⟨lw_p44, List.forall_mem_cons.mpr ⟨lw_p45, List.forall_mem_cons.mpr ⟨lw_p46, List.forall_mem_cons.mpr ⟨lw_p47, fun _ h => absurd h List.not_mem_nil⟩⟩⟩⟩⟩⟩⟩⟩⟩⟩⟩⟩⟩⟩⟩⟩
theorem lw_p48 : lw_okq (⟨"FactloomModel", "isHead", "(I)Z"⟩, 12) := ⟨⟨by decide +kernel, by decide +kernel⟩, List.mem_of_getElem? (i := 1279) (by decide +kernel), List.mem_of_getElem? (i := 1563) (by decide +kernel), List.mem_of_getElem? (i := 1564) (by decide +kernel)⟩
theorem lw_p49 : lw_okq (⟨"java/util/ArrayList", "fastRemove", "([Ljava/lang/Object;I)V"⟩, 3) := ⟨⟨by decide +kernel, by decide +kernel⟩, List.mem_of_getElem? (i := 1285) (by decide +kernel), List.mem_of_getElem? (i := 1598) (by decide +kernel), List.mem_of_getElem? (i := 1599) (by decide +kernel)⟩
theorem lw_p50 : lw_okq (⟨"FactloomModel", "ofFactNow", "(II)I"⟩, 12) := ⟨⟨by decide +kernel, by decide +kernel⟩, List.mem_of_getElem? (i := 1279) (by decide +kernel), List.mem_of_getElem? (i := 1639) (by decide +kernel), List.mem_of_getElem? (i := 1640) (by decide +kernel)⟩
theorem lw_p51 : lw_okq (⟨"FactloomModel", "depthsNow", "()[I"⟩, 12) := ⟨⟨by decide +kernel, by decide +kernel⟩, List.mem_of_getElem? (i := 1279) (by decide +kernel), List.mem_of_getElem? (i := 1643) (by decide +kernel), List.mem_of_getElem? (i := 1644) (by decide +kernel)⟩
theorem lw_p52 : lw_okq (⟨"FactloomModel", "depths", "([Z)[I"⟩, 12) := ⟨⟨by decide +kernel, by decide +kernel⟩, List.mem_of_getElem? (i := 1279) (by decide +kernel), List.mem_of_getElem? (i := 1647) (by decide +kernel), List.mem_of_getElem? (i := 1648) (by decide +kernel)⟩
theorem lw_p53 : lw_okq (⟨"FactloomModel", "next", "([II)Z"⟩, 12) := ⟨⟨by decide +kernel, by decide +kernel⟩, List.mem_of_getElem? (i := 1279) (by decide +kernel), List.mem_of_getElem? (i := 1654) (by decide +kernel), List.mem_of_getElem? (i := 1655) (by decide +kernel)⟩
theorem lw_p54 : lw_okq (⟨"FactloomModel", "waysNow", "([II)I"⟩, 12) := ⟨⟨by decide +kernel, by decide +kernel⟩, List.mem_of_getElem? (i := 1279) (by decide +kernel), List.mem_of_getElem? (i := 1658) (by decide +kernel), List.mem_of_getElem? (i := 1659) (by decide +kernel)⟩
theorem lw_p55 : lw_okq (⟨"FactloomModel", "merits", "()[I"⟩, 12) := ⟨⟨by decide +kernel, by decide +kernel⟩, List.mem_of_getElem? (i := 1279) (by decide +kernel), List.mem_of_getElem? (i := 1662) (by decide +kernel), List.mem_of_getElem? (i := 1663) (by decide +kernel)⟩
theorem lw_p56 : lw_okq (⟨"FactloomModel", "meritsNow", "()[I"⟩, 12) := ⟨⟨by decide +kernel, by decide +kernel⟩, List.mem_of_getElem? (i := 1279) (by decide +kernel), List.mem_of_getElem? (i := 1666) (by decide +kernel), List.mem_of_getElem? (i := 1667) (by decide +kernel)⟩
theorem lw_p57 : lw_okq (⟨"FactloomModel", "since", "(I)I"⟩, 12) := ⟨⟨by decide +kernel, by decide +kernel⟩, List.mem_of_getElem? (i := 1279) (by decide +kernel), List.mem_of_getElem? (i := 1670) (by decide +kernel), List.mem_of_getElem? (i := 1671) (by decide +kernel)⟩
theorem lw_p58 : lw_okq (⟨"FactloomModel", "answersNow", "([I)Ljava/util/ArrayList;"⟩, 12) := ⟨⟨by decide +kernel, by decide +kernel⟩, List.mem_of_getElem? (i := 1279) (by decide +kernel), List.mem_of_getElem? (i := 1692) (by decide +kernel), List.mem_of_getElem? (i := 1693) (by decide +kernel)⟩
theorem lw_p59 : lw_okq (⟨"FactloomModel", "lettersOfAll", "()I"⟩, 12) := ⟨⟨by decide +kernel, by decide +kernel⟩, List.mem_of_getElem? (i := 1279) (by decide +kernel), List.mem_of_getElem? (i := 1696) (by decide +kernel), List.mem_of_getElem? (i := 1697) (by decide +kernel)⟩
theorem lw_p60 : lw_okq (⟨"FactloomModel", "isDenied", "([I[II)Z"⟩, 12) := ⟨⟨by decide +kernel, by decide +kernel⟩, List.mem_of_getElem? (i := 1279) (by decide +kernel), List.mem_of_getElem? (i := 1713) (by decide +kernel), List.mem_of_getElem? (i := 1714) (by decide +kernel)⟩
theorem lw_p61 : lw_okq (⟨"FactloomModel", "sizeNow", "([II)I"⟩, 12) := ⟨⟨by decide +kernel, by decide +kernel⟩, List.mem_of_getElem? (i := 1279) (by decide +kernel), List.mem_of_getElem? (i := 1728) (by decide +kernel), List.mem_of_getElem? (i := 1729) (by decide +kernel)⟩
theorem lw_p62 : lw_okq (⟨"FactloomModel", "boundNow", "([I)J"⟩, 12) := ⟨⟨by decide +kernel, by decide +kernel⟩, List.mem_of_getElem? (i := 1279) (by decide +kernel), List.mem_of_getElem? (i := 1736) (by decide +kernel), List.mem_of_getElem? (i := 1737) (by decide +kernel)⟩
theorem lw_p63 : lw_okq (⟨"FactloomModel", "covers", "([I)Z"⟩, 12) := ⟨⟨by decide +kernel, by decide +kernel⟩, List.mem_of_getElem? (i := 1279) (by decide +kernel), List.mem_of_getElem? (i := 1741) (by decide +kernel), List.mem_of_getElem? (i := 1742) (by decide +kernel)⟩
def lw_privs_4 : List (MethodName × Nat) := [(⟨"FactloomModel", "isHead", "(I)Z"⟩, 12), (⟨"java/util/ArrayList", "fastRemove", "([Ljava/lang/Object;I)V"⟩, 3), (⟨"FactloomModel", "ofFactNow", "(II)I"⟩, 12), (⟨"FactloomModel", "depthsNow", "()[I"⟩, 12), (⟨"FactloomModel", "depths", "([Z)[I"⟩, 12), (⟨"FactloomModel", "next", "([II)Z"⟩, 12), (⟨"FactloomModel", "waysNow", "([II)I"⟩, 12), (⟨"FactloomModel", "merits", "()[I"⟩, 12), (⟨"FactloomModel", "meritsNow", "()[I"⟩, 12), (⟨"FactloomModel", "since", "(I)I"⟩, 12), (⟨"FactloomModel", "answersNow", "([I)Ljava/util/ArrayList;"⟩, 12), (⟨"FactloomModel", "lettersOfAll", "()I"⟩, 12), (⟨"FactloomModel", "isDenied", "([I[II)Z"⟩, 12), (⟨"FactloomModel", "sizeNow", "([II)I"⟩, 12), (⟨"FactloomModel", "boundNow", "([I)J"⟩, 12), (⟨"FactloomModel", "covers", "([I)Z"⟩, 12)]
theorem lw_r4 : ∀ q ∈ lw_privs_4, lw_okq q := List.forall_mem_cons.mpr ⟨lw_p48, List.forall_mem_cons.mpr ⟨lw_p49, List.forall_mem_cons.mpr ⟨lw_p50, List.forall_mem_cons.mpr ⟨lw_p51, List.forall_mem_cons.mpr ⟨lw_p52, List.forall_mem_cons.mpr ⟨lw_p53, List.forall_mem_cons.mpr ⟨lw_p54, List.forall_mem_cons.mpr ⟨lw_p55, List.forall_mem_cons.mpr ⟨lw_p56, List.forall_mem_cons.mpr ⟨lw_p57, List.forall_mem_cons.mpr ⟨lw_p58, List.forall_mem_cons.mpr ⟨lw_p59, List.forall_mem_cons.mpr ⟨lw_p60, List.forall_mem_cons.mpr ⟨lw_p61, List.forall_mem_cons.mpr ⟨lw_p62, List.forall_mem_cons.mpr ⟨lw_p63, fun _ h => absurd h List.not_mem_nil⟩⟩⟩⟩⟩⟩⟩⟩⟩⟩⟩⟩⟩⟩⟩⟩
theorem lw_p64 : lw_okq (⟨"FactloomModel", "chainNow", "([IIII)I"⟩, 12) := ⟨⟨by decide +kernel, by decide +kernel⟩, List.mem_of_getElem? (i := 1279) (by decide +kernel), List.mem_of_getElem? (i := 1750) (by decide +kernel), List.mem_of_getElem? (i := 1751) (by decide +kernel)⟩
theorem lw_p65 : lw_okq (⟨"FactloomModel", "whyNow", "(I)Ljava/lang/String;"⟩, 12) := ⟨⟨by decide +kernel, by decide +kernel⟩, List.mem_of_getElem? (i := 1279) (by decide +kernel), List.mem_of_getElem? (i := 1764) (by decide +kernel), List.mem_of_getElem? (i := 1765) (by decide +kernel)⟩
theorem lw_p66 : lw_okq (⟨"FactloomModel", "storeNow", "([II)I"⟩, 12) := ⟨⟨by decide +kernel, by decide +kernel⟩, List.mem_of_getElem? (i := 1279) (by decide +kernel), List.mem_of_getElem? (i := 1785) (by decide +kernel), List.mem_of_getElem? (i := 1786) (by decide +kernel)⟩
theorem lw_p67 : lw_okq (⟨"FactloomModel", "isSoundNow", "([I[I)Z"⟩, 12) := ⟨⟨by decide +kernel, by decide +kernel⟩, List.mem_of_getElem? (i := 1279) (by decide +kernel), List.mem_of_getElem? (i := 1807) (by decide +kernel), List.mem_of_getElem? (i := 1808) (by decide +kernel)⟩
theorem lw_p68 : lw_okq (⟨"FactloomModel", "hasWay", "([II)Z"⟩, 12) := ⟨⟨by decide +kernel, by decide +kernel⟩, List.mem_of_getElem? (i := 1279) (by decide +kernel), List.mem_of_getElem? (i := 1811) (by decide +kernel), List.mem_of_getElem? (i := 1812) (by decide +kernel)⟩
theorem lw_p69 : lw_okq (⟨"FactloomModel", "add", "(J)V"⟩, 12) := ⟨⟨by decide +kernel, by decide +kernel⟩, List.mem_of_getElem? (i := 1279) (by decide +kernel), List.mem_of_getElem? (i := 1820) (by decide +kernel), List.mem_of_getElem? (i := 1821) (by decide +kernel)⟩
def lw_privs_5 : List (MethodName × Nat) := [(⟨"FactloomModel", "chainNow", "([IIII)I"⟩, 12), (⟨"FactloomModel", "whyNow", "(I)Ljava/lang/String;"⟩, 12), (⟨"FactloomModel", "storeNow", "([II)I"⟩, 12), (⟨"FactloomModel", "isSoundNow", "([I[I)Z"⟩, 12), (⟨"FactloomModel", "hasWay", "([II)Z"⟩, 12), (⟨"FactloomModel", "add", "(J)V"⟩, 12)]
theorem lw_r5 : ∀ q ∈ lw_privs_5, lw_okq q := List.forall_mem_cons.mpr ⟨lw_p64, List.forall_mem_cons.mpr ⟨lw_p65, List.forall_mem_cons.mpr ⟨lw_p66, List.forall_mem_cons.mpr ⟨lw_p67, List.forall_mem_cons.mpr ⟨lw_p68, List.forall_mem_cons.mpr ⟨lw_p69, fun _ h => absurd h List.not_mem_nil⟩⟩⟩⟩⟩⟩
def lw_privs : List (MethodName × Nat) := lw_privs_1 ++ (lw_privs_2 ++ (lw_privs_3 ++ (lw_privs_4 ++ (lw_privs_5))))
def lw_tbl : List Cond := k2_sels lw_privs ++ tables_1
theorem lw_privs_ok : ∀ q ∈ lw_privs, lw_okq q := by
  show ∀ q ∈ lw_privs_1 ++ (lw_privs_2 ++ (lw_privs_3 ++ (lw_privs_4 ++ (lw_privs_5)))), lw_okq q
  exact List.forall_mem_append.mpr ⟨lw_r1, List.forall_mem_append.mpr ⟨lw_r2, List.forall_mem_append.mpr ⟨lw_r3, List.forall_mem_append.mpr ⟨lw_r4, lw_r5⟩⟩⟩⟩

def RX0 : String := "Factloom$Batch"
def TX0 : u_T := fun k => match k with
  | 0 => ("Factloom$Batch", "triples", "[I", true)
  | 1 => ("Factloom$Batch", "trusts", "[I", true)
  | _ => ("Factloom$Batch", "count", "I", false)
def tyX0 : Nat → FieldType := fun k => match k with
  | 0 => .array .int
  | 1 => .array .int
  | _ => .int
abbrev wsX00 : List Cond := u_ws RX0 TX0 3
theorem nmX0 : ∀ a, a < 3 → ∀ b, b < 3 → a ≠ b → (TX0 a).2.1 ≠ (TX0 b).2.1 := by decide +kernel
theorem tyX0_ok : ∀ k, k < 3 → parseFieldDescriptor (TX0 k).2.2.1 = some (tyX0 k) := by decide +kernel
abbrev cX0_init : ByteArray := prog_2_method_1_code
def yX0_init : MethodName := ⟨RX0, "<init>", "()V"⟩
abbrev cX0_add : ByteArray := prog_2_method_2_code
def yX0_add : MethodName := ⟨RX0, "add", "(II)I"⟩
abbrev cX0_empty : ByteArray := prog_2_method_3_code
def yX0_empty : MethodName := ⟨RX0, "empty", "()I"⟩
def RX1 : String := "Factloom$Binding"
def TX1 : u_T := fun k => match k with
  | 0 => ("Factloom$Binding", "meaning", "[I", true)
  | _ => ("Factloom$Binding", "letters", "I", false)
def tyX1 : Nat → FieldType := fun k => match k with
  | 0 => .array .int
  | _ => .int
abbrev wsX10 : List Cond := u_ws RX1 TX1 2
theorem nmX1 : ∀ a, a < 2 → ∀ b, b < 2 → a ≠ b → (TX1 a).2.1 ≠ (TX1 b).2.1 := by decide +kernel
theorem tyX1_ok : ∀ k, k < 2 → parseFieldDescriptor (TX1 k).2.2.1 = some (tyX1 k) := by decide +kernel
abbrev cX1_init : ByteArray := prog_3_method_1_code
def yX1_init : MethodName := ⟨RX1, "<init>", "()V"⟩
abbrev cX1_start : ByteArray := prog_3_method_2_code
def yX1_start : MethodName := ⟨RX1, "start", "(LFactloom$Names;I)I"⟩
abbrev cX1_startInside : ByteArray := prog_3_method_3_code
def yX1_startInside : MethodName := ⟨RX1, "startInside", "(LFactloom$Binding;I)I"⟩
abbrev cX1_bindFirst : ByteArray := prog_3_method_4_code
def yX1_bindFirst : MethodName := ⟨RX1, "bindFirst", "(I)I"⟩
abbrev cX1_next : ByteArray := prog_3_method_5_code
def yX1_next : MethodName := ⟨RX1, "next", "()V"⟩
abbrev cX1_headAbove : ByteArray := prog_3_method_6_code
def yX1_headAbove : MethodName := ⟨RX1, "headAbove", "(I)I"⟩
abbrev cX1_tripleOf : ByteArray := prog_3_method_7_code
def yX1_tripleOf : MethodName := ⟨RX1, "tripleOf", "(I)I"⟩
abbrev cX1_number : ByteArray := prog_3_method_8_code
def yX1_number : MethodName := ⟨RX1, "number", "()I"⟩
def RX2 : String := "Factloom$Depths"
def TX2 : u_T := fun k => match k with
  | 0 => ("Factloom$Depths", "depth", "[I", true)
  | 1 => ("Factloom$Depths", "count", "I", false)
  | _ => ("Factloom$Depths", "greatest", "I", false)
def tyX2 : Nat → FieldType := fun k => match k with
  | 0 => .array .int
  | 1 => .int
  | _ => .int
abbrev wsX20 : List Cond := u_ws RX2 TX2 3
theorem nmX2 : ∀ a, a < 3 → ∀ b, b < 3 → a ≠ b → (TX2 a).2.1 ≠ (TX2 b).2.1 := by decide +kernel
theorem tyX2_ok : ∀ k, k < 3 → parseFieldDescriptor (TX2 k).2.2.1 = some (tyX2 k) := by decide +kernel
abbrev cX2_init : ByteArray := prog_4_method_1_code
def yX2_init : MethodName := ⟨RX2, "<init>", "()V"⟩
abbrev cX2_spread : ByteArray := prog_4_method_2_code
def yX2_spread : MethodName := ⟨RX2, "spread", "(LFactloom$ToldTable;ILFactloom$Grounds;)V"⟩
abbrev cX2_grow : ByteArray := prog_4_method_3_code
def yX2_grow : MethodName := ⟨RX2, "grow", "(ILFactloom$Grounds;)Z"⟩
abbrev cX2_reach : ByteArray := prog_4_method_4_code
def yX2_reach : MethodName := ⟨RX2, "reach", "(II)V"⟩
abbrev cX2_of : ByteArray := prog_4_method_5_code
def yX2_of : MethodName := ⟨RX2, "of", "(I)I"⟩
abbrev cX2_holds : ByteArray := prog_4_method_6_code
def yX2_holds : MethodName := ⟨RX2, "holds", "(I)Z"⟩
abbrev cX2_isBelow : ByteArray := prog_4_method_7_code
def yX2_isBelow : MethodName := ⟨RX2, "isBelow", "(II)Z"⟩
def RX3 : String := "Factloom$Grounds"
def TX3 : u_T := fun k => match k with
  | 0 => ("Factloom$Grounds", "ruleOf", "[I", true)
  | 1 => ("Factloom$Grounds", "made", "[I", true)
  | 2 => ("Factloom$Grounds", "one", "[I", true)
  | 3 => ("Factloom$Grounds", "other", "[I", true)
  | 4 => ("Factloom$Grounds", "binding", "LFactloom$Binding;", true)
  | _ => ("Factloom$Grounds", "count", "I", false)
def tyX3 : Nat → FieldType := fun k => match k with
  | 0 => .array .int
  | 1 => .array .int
  | 2 => .array .int
  | 3 => .array .int
  | 4 => .object "Factloom$Binding"
  | _ => .int
abbrev wsX30 : List Cond := u_ws RX3 TX3 6
theorem nmX3 : ∀ a, a < 6 → ∀ b, b < 6 → a ≠ b → (TX3 a).2.1 ≠ (TX3 b).2.1 := by decide +kernel
theorem tyX3_ok : ∀ k, k < 6 → parseFieldDescriptor (TX3 k).2.2.1 = some (tyX3 k) := by decide +kernel
abbrev cX3_init : ByteArray := prog_5_method_1_code
def yX3_init : MethodName := ⟨RX3, "<init>", "()V"⟩
abbrev cX3_build : ByteArray := prog_5_method_2_code
def yX3_build : MethodName := ⟨RX3, "build", "(LFactloom$Rules;LFactloom$Names;)V"⟩
abbrev cX3_add : ByteArray := prog_5_method_3_code
def yX3_add : MethodName := ⟨RX3, "add", "(IIII)V"⟩
def RX4 : String := "Factloom$Names"
def TX4 : u_T := fun k => match k with
  | 0 => ("Factloom$Names", "heads", "[I", true)
  | _ => ("Factloom$Names", "singles", "I", false)
def tyX4 : Nat → FieldType := fun k => match k with
  | 0 => .array .int
  | _ => .int
abbrev wsX40 : List Cond := u_ws RX4 TX4 2
theorem nmX4 : ∀ a, a < 2 → ∀ b, b < 2 → a ≠ b → (TX4 a).2.1 ≠ (TX4 b).2.1 := by decide +kernel
theorem tyX4_ok : ∀ k, k < 2 → parseFieldDescriptor (TX4 k).2.2.1 = some (tyX4 k) := by decide +kernel
abbrev cX4_init : ByteArray := prog_6_method_1_code
def yX4_init : MethodName := ⟨RX4, "<init>", "()V"⟩
abbrev cX4_separate : ByteArray := prog_6_method_2_code
def yX4_separate : MethodName := ⟨RX4, "separate", "()V"⟩
abbrev cX4_unite : ByteArray := prog_6_method_3_code
def yX4_unite : MethodName := ⟨RX4, "unite", "(II)I"⟩
abbrev cX4_setSingle : ByteArray := prog_6_method_4_code
def yX4_setSingle : MethodName := ⟨RX4, "setSingle", "(IZ)V"⟩
abbrev cX4_headOf : ByteArray := prog_6_method_5_code
def yX4_headOf : MethodName := ⟨RX4, "headOf", "(I)I"⟩
abbrev cX4_headsOf : ByteArray := prog_6_method_6_code
def yX4_headsOf : MethodName := ⟨RX4, "headsOf", "(I)I"⟩
abbrev cX4_isHead : ByteArray := prog_6_method_7_code
def yX4_isHead : MethodName := ⟨RX4, "isHead", "(I)Z"⟩
abbrev cX4_headCount : ByteArray := prog_6_method_8_code
def yX4_headCount : MethodName := ⟨RX4, "headCount", "()I"⟩
def RX5 : String := "Factloom$Origins"
def TX5 : u_T := fun k => match k with
  | 0 => ("Factloom$Origins", "ways", "[I", true)
  | 1 => ("Factloom$Origins", "first", "[I", true)
  | _ => ("Factloom$Origins", "merit", "[I", true)
def tyX5 : Nat → FieldType := fun k => match k with
  | 0 => .array .int
  | 1 => .array .int
  | _ => .array .int
abbrev wsX50 : List Cond := u_ws RX5 TX5 3
theorem nmX5 : ∀ a, a < 3 → ∀ b, b < 3 → a ≠ b → (TX5 a).2.1 ≠ (TX5 b).2.1 := by decide +kernel
theorem tyX5_ok : ∀ k, k < 3 → parseFieldDescriptor (TX5 k).2.2.1 = some (tyX5 k) := by decide +kernel
abbrev cX5_init : ByteArray := prog_7_method_1_code
def yX5_init : MethodName := ⟨RX5, "<init>", "()V"⟩
abbrev cX5_trace : ByteArray := prog_7_method_2_code
def yX5_trace : MethodName := ⟨RX5, "trace", "(LFactloom$Rows;LFactloom$Depths;LFactloom$Grounds;)V"⟩
abbrev cX5_countWays : ByteArray := prog_7_method_3_code
def yX5_countWays : MethodName := ⟨RX5, "countWays", "(LFactloom$Depths;LFactloom$Grounds;)V"⟩
abbrev cX5_startMerits : ByteArray := prog_7_method_4_code
def yX5_startMerits : MethodName := ⟨RX5, "startMerits", "(LFactloom$Rows;)V"⟩
abbrev cX5_raiseMerits : ByteArray := prog_7_method_5_code
def yX5_raiseMerits : MethodName := ⟨RX5, "raiseMerits", "(LFactloom$Grounds;)Z"⟩
abbrev cX5_raise : ByteArray := prog_7_method_6_code
def yX5_raise : MethodName := ⟨RX5, "raise", "(II)Z"⟩
def RX6 : String := "Factloom$Question"
def TX6 : u_T := fun k => match k with
  | 0 => ("Factloom$Question", "patterns", "[I", true)
  | 1 => ("Factloom$Question", "sizes", "[I", true)
  | 2 => ("Factloom$Question", "found", "[I", true)
  | 3 => ("Factloom$Question", "outer", "LFactloom$Binding;", true)
  | 4 => ("Factloom$Question", "inner", "LFactloom$Binding;", true)
  | 5 => ("Factloom$Question", "count", "I", false)
  | 6 => ("Factloom$Question", "letters", "I", false)
  | 7 => ("Factloom$Question", "notPattern", "I", false)
  | _ => ("Factloom$Question", "answerCount", "I", false)
def tyX6 : Nat → FieldType := fun k => match k with
  | 0 => .array .int
  | 1 => .array .int
  | 2 => .array .int
  | 3 => .object "Factloom$Binding"
  | 4 => .object "Factloom$Binding"
  | 5 => .int
  | 6 => .int
  | 7 => .int
  | _ => .int
abbrev wsX60 : List Cond := u_ws RX6 TX6 9
theorem nmX6 : ∀ a, a < 9 → ∀ b, b < 9 → a ≠ b → (TX6 a).2.1 ≠ (TX6 b).2.1 := by decide +kernel
theorem tyX6_ok : ∀ k, k < 9 → parseFieldDescriptor (TX6 k).2.2.1 = some (tyX6 k) := by decide +kernel
abbrev cX6_init : ByteArray := prog_8_method_1_code
def yX6_init : MethodName := ⟨RX6, "<init>", "()V"⟩
abbrev cX6_add : ByteArray := prog_8_method_2_code
def yX6_add : MethodName := ⟨RX6, "add", "(I)I"⟩
abbrev cX6_replaceNot : ByteArray := prog_8_method_3_code
def yX6_replaceNot : MethodName := ⟨RX6, "replaceNot", "(I)I"⟩
abbrev cX6_hasNot : ByteArray := prog_8_method_4_code
def yX6_hasNot : MethodName := ⟨RX6, "hasNot", "()Z"⟩
abbrev cX6_empty : ByteArray := prog_8_method_5_code
def yX6_empty : MethodName := ⟨RX6, "empty", "()I"⟩
abbrev cX6_find : ByteArray := prog_8_method_6_code
def yX6_find : MethodName := ⟨RX6, "find", "(LFactloom$Names;LFactloom$Depths;)V"⟩
abbrev cX6_allHold : ByteArray := prog_8_method_7_code
def yX6_allHold : MethodName := ⟨RX6, "allHold", "(LFactloom$Depths;)Z"⟩
abbrev cX6_isRefused : ByteArray := prog_8_method_8_code
def yX6_isRefused : MethodName := ⟨RX6, "isRefused", "(LFactloom$Depths;)Z"⟩
abbrev cX6_sizeOf : ByteArray := prog_8_method_9_code
def yX6_sizeOf : MethodName := ⟨RX6, "sizeOf", "(ILFactloom$Names;LFactloom$Depths;)I"⟩
abbrev cX6_answersBound : ByteArray := prog_8_method_10_code
def yX6_answersBound : MethodName := ⟨RX6, "answersBound", "(LFactloom$Names;LFactloom$Depths;)J"⟩
abbrev cX6_coversLetters : ByteArray := prog_8_method_11_code
def yX6_coversLetters : MethodName := ⟨RX6, "coversLetters", "(I)Z"⟩
abbrev cX6_powerOver : ByteArray := prog_8_method_12_code
def yX6_powerOver : MethodName := ⟨RX6, "powerOver", "(II)I"⟩
abbrev cX6_productOf : ByteArray := prog_8_method_13_code
def yX6_productOf : MethodName := ⟨RX6, "productOf", "(I)J"⟩
def RX7 : String := "Factloom$Rows"
def TX7 : u_T := fun k => match k with
  | 0 => ("Factloom$Rows", "triples", "[I", true)
  | 1 => ("Factloom$Rows", "heads", "[I", true)
  | 2 => ("Factloom$Rows", "trusts", "[I", true)
  | 3 => ("Factloom$Rows", "since", "[I", true)
  | 4 => ("Factloom$Rows", "till", "[I", true)
  | _ => ("Factloom$Rows", "count", "I", false)
def tyX7 : Nat → FieldType := fun k => match k with
  | 0 => .array .int
  | 1 => .array .int
  | 2 => .array .int
  | 3 => .array .int
  | 4 => .array .int
  | _ => .int
abbrev wsX70 : List Cond := u_ws RX7 TX7 6
theorem nmX7 : ∀ a, a < 6 → ∀ b, b < 6 → a ≠ b → (TX7 a).2.1 ≠ (TX7 b).2.1 := by decide +kernel
theorem tyX7_ok : ∀ k, k < 6 → parseFieldDescriptor (TX7 k).2.2.1 = some (tyX7 k) := by decide +kernel
abbrev cX7_init : ByteArray := prog_9_method_1_code
def yX7_init : MethodName := ⟨RX7, "<init>", "()V"⟩
abbrev cX7_copyFrom : ByteArray := prog_9_method_2_code
def yX7_copyFrom : MethodName := ⟨RX7, "copyFrom", "(LFactloom$Rows;)V"⟩
abbrev cX7_rename : ByteArray := prog_9_method_3_code
def yX7_rename : MethodName := ⟨RX7, "rename", "(LFactloom$Names;)V"⟩
abbrev cX7_take : ByteArray := prog_9_method_4_code
def yX7_take : MethodName := ⟨RX7, "take", "(LFactloom$Batch;ILFactloom$Names;)V"⟩
abbrev cX7_end : ByteArray := prog_9_method_5_code
def yX7_end : MethodName := ⟨RX7, "end", "(II)V"⟩
abbrev cX7_begin : ByteArray := prog_9_method_6_code
def yX7_begin : MethodName := ⟨RX7, "begin", "(IIII)V"⟩
abbrev cX7_openRowOf : ByteArray := prog_9_method_7_code
def yX7_openRowOf : MethodName := ⟨RX7, "openRowOf", "(I)I"⟩
abbrev cX7_isOpen : ByteArray := prog_9_method_8_code
def yX7_isOpen : MethodName := ⟨RX7, "isOpen", "(I)Z"⟩
abbrev cX7_holdsIn : ByteArray := prog_9_method_9_code
def yX7_holdsIn : MethodName := ⟨RX7, "holdsIn", "(II)Z"⟩
abbrev cX7_earliest : ByteArray := prog_9_method_10_code
def yX7_earliest : MethodName := ⟨RX7, "earliest", "(I)I"⟩
abbrev cX7_greatestTrust : ByteArray := prog_9_method_11_code
def yX7_greatestTrust : MethodName := ⟨RX7, "greatestTrust", "()I"⟩
def RX8 : String := "Factloom$Rules"
def TX8 : u_T := fun k => match k with
  | 0 => ("Factloom$Rules", "made", "[I", true)
  | 1 => ("Factloom$Rules", "one", "[I", true)
  | 2 => ("Factloom$Rules", "other", "[I", true)
  | _ => ("Factloom$Rules", "count", "I", false)
def tyX8 : Nat → FieldType := fun k => match k with
  | 0 => .array .int
  | 1 => .array .int
  | 2 => .array .int
  | _ => .int
abbrev wsX80 : List Cond := u_ws RX8 TX8 4
theorem nmX8 : ∀ a, a < 4 → ∀ b, b < 4 → a ≠ b → (TX8 a).2.1 ≠ (TX8 b).2.1 := by decide +kernel
theorem tyX8_ok : ∀ k, k < 4 → parseFieldDescriptor (TX8 k).2.2.1 = some (tyX8 k) := by decide +kernel
abbrev cX8_init : ByteArray := prog_10_method_1_code
def yX8_init : MethodName := ⟨RX8, "<init>", "()V"⟩
abbrev cX8_add : ByteArray := prog_10_method_2_code
def yX8_add : MethodName := ⟨RX8, "add", "(III)I"⟩
abbrev cX8_removeLast : ByteArray := prog_10_method_3_code
def yX8_removeLast : MethodName := ⟨RX8, "removeLast", "()I"⟩
def RX9 : String := "Factloom$ToldTable"
def TX9 : u_T := fun k => match k with
  | _ => ("Factloom$ToldTable", "thirds", "[I", true)
def tyX9 : Nat → FieldType := fun k => match k with
  | _ => .array .int
abbrev wsX90 : List Cond := u_ws RX9 TX9 1
theorem nmX9 : ∀ a, a < 1 → ∀ b, b < 1 → a ≠ b → (TX9 a).2.1 ≠ (TX9 b).2.1 := by decide +kernel
theorem tyX9_ok : ∀ k, k < 1 → parseFieldDescriptor (TX9 k).2.2.1 = some (tyX9 k) := by decide +kernel
abbrev cX9_init : ByteArray := prog_11_method_1_code
def yX9_init : MethodName := ⟨RX9, "<init>", "()V"⟩
abbrev cX9_gather : ByteArray := prog_11_method_2_code
def yX9_gather : MethodName := ⟨RX9, "gather", "(LFactloom$Rows;I)V"⟩
abbrev cX9_has : ByteArray := prog_11_method_3_code
def yX9_has : MethodName := ⟨RX9, "has", "(I)Z"⟩
abbrev cX9_count : ByteArray := prog_11_method_4_code
def yX9_count : MethodName := ⟨RX9, "count", "()I"⟩
abbrev cX9_brokenHeads : ByteArray := prog_11_method_5_code
def yX9_brokenHeads : MethodName := ⟨RX9, "brokenHeads", "(LFactloom$Names;)I"⟩
abbrev cX9_isBrokenFor : ByteArray := prog_11_method_6_code
def yX9_isBrokenFor : MethodName := ⟨RX9, "isBrokenFor", "(ILFactloom$Names;)Z"⟩
def RX10 : String := "Factloom"
def TX10 : u_T := fun k => match k with
  | 0 => ("Factloom", "names", "LFactloom$Names;", true)
  | 1 => ("Factloom", "batch", "LFactloom$Batch;", true)
  | 2 => ("Factloom", "rows", "LFactloom$Rows;", true)
  | 3 => ("Factloom", "tried", "LFactloom$Rows;", true)
  | 4 => ("Factloom", "toldNow", "LFactloom$ToldTable;", true)
  | 5 => ("Factloom", "toldElse", "LFactloom$ToldTable;", true)
  | 6 => ("Factloom", "rules", "LFactloom$Rules;", true)
  | 7 => ("Factloom", "grounds", "LFactloom$Grounds;", true)
  | 8 => ("Factloom", "depths", "LFactloom$Depths;", true)
  | 9 => ("Factloom", "depthsWithout", "LFactloom$Depths;", true)
  | 10 => ("Factloom", "origins", "LFactloom$Origins;", true)
  | 11 => ("Factloom", "question", "LFactloom$Question;", true)
  | 12 => ("Factloom", "moment", "I", false)
  | 13 => ("Factloom", "groundsFresh", "Z", false)
  | 14 => ("Factloom", "heldFresh", "Z", false)
  | _ => ("Factloom", "answersFresh", "Z", false)
def tyX10 : Nat → FieldType := fun k => match k with
  | 0 => .object "Factloom$Names"
  | 1 => .object "Factloom$Batch"
  | 2 => .object "Factloom$Rows"
  | 3 => .object "Factloom$Rows"
  | 4 => .object "Factloom$ToldTable"
  | 5 => .object "Factloom$ToldTable"
  | 6 => .object "Factloom$Rules"
  | 7 => .object "Factloom$Grounds"
  | 8 => .object "Factloom$Depths"
  | 9 => .object "Factloom$Depths"
  | 10 => .object "Factloom$Origins"
  | 11 => .object "Factloom$Question"
  | 12 => .int
  | 13 => .boolean
  | 14 => .boolean
  | _ => .boolean
abbrev wsX100 : List Cond := u_ws RX10 TX10 16
theorem nmX10 : ∀ a, a < 16 → ∀ b, b < 16 → a ≠ b → (TX10 a).2.1 ≠ (TX10 b).2.1 := by decide +kernel
theorem tyX10_ok : ∀ k, k < 16 → parseFieldDescriptor (TX10 k).2.2.1 = some (tyX10 k) := by decide +kernel
abbrev cX10_init : ByteArray := prog_1_method_1_code
def yX10_init : MethodName := ⟨RX10, "<init>", "()V"⟩
abbrev cX10_tell : ByteArray := prog_1_method_2_code
def yX10_tell : MethodName := ⟨RX10, "tell", "(II)I"⟩
abbrev cX10_unsay : ByteArray := prog_1_method_3_code
def yX10_unsay : MethodName := ⟨RX10, "unsay", "(I)I"⟩
abbrev cX10_drop : ByteArray := prog_1_method_4_code
def yX10_drop : MethodName := ⟨RX10, "drop", "()I"⟩
abbrev cX10_commit : ByteArray := prog_1_method_5_code
def yX10_commit : MethodName := ⟨RX10, "commit", "()I"⟩
abbrev cX10_join : ByteArray := prog_1_method_6_code
def yX10_join : MethodName := ⟨RX10, "join", "(II)I"⟩
abbrev cX10_part : ByteArray := prog_1_method_7_code
def yX10_part : MethodName := ⟨RX10, "part", "()I"⟩
abbrev cX10_single : ByteArray := prog_1_method_8_code
def yX10_single : MethodName := ⟨RX10, "single", "(IZ)I"⟩
abbrev cX10_rule : ByteArray := prog_1_method_9_code
def yX10_rule : MethodName := ⟨RX10, "rule", "(III)I"⟩
abbrev cX10_unrule : ByteArray := prog_1_method_10_code
def yX10_unrule : MethodName := ⟨RX10, "unrule", "()I"⟩
abbrev cX10_pattern : ByteArray := prog_1_method_11_code
def yX10_pattern : MethodName := ⟨RX10, "pattern", "(I)I"⟩
abbrev cX10_not : ByteArray := prog_1_method_12_code
def yX10_not : MethodName := ⟨RX10, "not", "(I)I"⟩
abbrev cX10_clear : ByteArray := prog_1_method_13_code
def yX10_clear : MethodName := ⟨RX10, "clear", "()I"⟩
abbrev cX10_ofFact : ByteArray := prog_1_method_14_code
def yX10_ofFact : MethodName := ⟨RX10, "ofFact", "(II)I"⟩
abbrev cX10_told : ByteArray := prog_1_method_15_code
def yX10_told : MethodName := ⟨RX10, "told", "(II)Z"⟩
abbrev cX10_past : ByteArray := prog_1_method_16_code
def yX10_past : MethodName := ⟨RX10, "past", "(I)I"⟩
abbrev cX10_answers : ByteArray := prog_1_method_17_code
def yX10_answers : MethodName := ⟨RX10, "answers", "()I"⟩
abbrev cX10_answer : ByteArray := prog_1_method_18_code
def yX10_answer : MethodName := ⟨RX10, "answer", "(I)I"⟩
abbrev cX10_size : ByteArray := prog_1_method_19_code
def yX10_size : MethodName := ⟨RX10, "size", "(I)I"⟩
abbrev cX10_bound : ByteArray := prog_1_method_20_code
def yX10_bound : MethodName := ⟨RX10, "bound", "()J"⟩
abbrev cX10_chain : ByteArray := prog_1_method_21_code
def yX10_chain : MethodName := ⟨RX10, "chain", "(III)I"⟩
abbrev cX10_why : ByteArray := prog_1_method_22_code
def yX10_why : MethodName := ⟨RX10, "why", "(I)Ljava/lang/String;"⟩
abbrev cX10_store : ByteArray := prog_1_method_23_code
def yX10_store : MethodName := ⟨RX10, "store", "(I)I"⟩
abbrev cX10_broken : ByteArray := prog_1_method_24_code
def yX10_broken : MethodName := ⟨RX10, "broken", "()I"⟩
abbrev cX10_lost : ByteArray := prog_1_method_25_code
def yX10_lost : MethodName := ⟨RX10, "lost", "(I)I"⟩
abbrev cX10_isSound : ByteArray := prog_1_method_26_code
def yX10_isSound : MethodName := ⟨RX10, "isSound", "()Z"⟩
abbrev cX10_digest : ByteArray := prog_1_method_27_code
def yX10_digest : MethodName := ⟨RX10, "digest", "()J"⟩
abbrev cX10_mixHeld : ByteArray := prog_1_method_28_code
def yX10_mixHeld : MethodName := ⟨RX10, "mixHeld", "(J)J"⟩
abbrev cX10_mixAnswers : ByteArray := prog_1_method_29_code
def yX10_mixAnswers : MethodName := ⟨RX10, "mixAnswers", "(J)J"⟩
abbrev cX10_headsChanged : ByteArray := prog_1_method_30_code
def yX10_headsChanged : MethodName := ⟨RX10, "headsChanged", "()V"⟩
abbrev cX10_rulesChanged : ByteArray := prog_1_method_31_code
def yX10_rulesChanged : MethodName := ⟨RX10, "rulesChanged", "()V"⟩
abbrev cX10_toldChanged : ByteArray := prog_1_method_32_code
def yX10_toldChanged : MethodName := ⟨RX10, "toldChanged", "()V"⟩
abbrev cX10_settleHeld : ByteArray := prog_1_method_33_code
def yX10_settleHeld : MethodName := ⟨RX10, "settleHeld", "()V"⟩
abbrev cX10_settleAnswers : ByteArray := prog_1_method_34_code
def yX10_settleAnswers : MethodName := ⟨RX10, "settleAnswers", "()V"⟩
abbrev cX10_tryBatch : ByteArray := prog_1_method_35_code
def yX10_tryBatch : MethodName := ⟨RX10, "tryBatch", "()V"⟩
abbrev cX10_toldCount : ByteArray := prog_1_method_36_code
def yX10_toldCount : MethodName := ⟨RX10, "toldCount", "(I)I"⟩
abbrev cX10_factNumber : ByteArray := prog_1_method_37_code
def yX10_factNumber : MethodName := ⟨RX10, "factNumber", "(II)I"⟩
abbrev cX10_storeNumber : ByteArray := prog_1_method_38_code
def yX10_storeNumber : MethodName := ⟨RX10, "storeNumber", "(I)I"⟩
abbrev cX10_chainLength : ByteArray := prog_1_method_39_code
def yX10_chainLength : MethodName := ⟨RX10, "chainLength", "(III)I"⟩
abbrev cX10_behind : ByteArray := prog_1_method_40_code
def yX10_behind : MethodName := ⟨RX10, "behind", "(II)I"⟩
abbrev cX10_originText : ByteArray := prog_1_method_41_code
def yX10_originText : MethodName := ⟨RX10, "originText", "(I)Ljava/lang/String;"⟩
abbrev cX10_appendTriple : ByteArray := prog_1_method_42_code
def yX10_appendTriple : MethodName := ⟨RX10, "appendTriple", "(Ljava/lang/StringBuilder;I)V"⟩
abbrev cX10_isAllSound : ByteArray := prog_1_method_43_code
def yX10_isAllSound : MethodName := ⟨RX10, "isAllSound", "()Z"⟩
abbrev cX10_areTriplesSound : ByteArray := prog_1_method_44_code
def yX10_areTriplesSound : MethodName := ⟨RX10, "areTriplesSound", "()Z"⟩
abbrev cX10_checkTriple : ByteArray := prog_1_method_45_code
def yX10_checkTriple : MethodName := ⟨RX10, "checkTriple", "(I)V"⟩
abbrev cX10_checkPattern : ByteArray := prog_1_method_46_code
def yX10_checkPattern : MethodName := ⟨RX10, "checkPattern", "(I)V"⟩
abbrev cX10_checkPatternOrNone : ByteArray := prog_1_method_47_code
def yX10_checkPatternOrNone : MethodName := ⟨RX10, "checkPatternOrNone", "(I)V"⟩
abbrev cX10_checkWord : ByteArray := prog_1_method_48_code
def yX10_checkWord : MethodName := ⟨RX10, "checkWord", "(I)V"⟩
abbrev cX10_checkMoment : ByteArray := prog_1_method_49_code
def yX10_checkMoment : MethodName := ⟨RX10, "checkMoment", "(I)V"⟩
abbrev cX10_checkBatchRoom : ByteArray := prog_1_method_50_code
def yX10_checkBatchRoom : MethodName := ⟨RX10, "checkBatchRoom", "()V"⟩
abbrev cX10_at : ByteArray := prog_1_method_51_code
def yX10_at : MethodName := ⟨RX10, "at", "([III)I"⟩
abbrev cX10_put : ByteArray := prog_1_method_52_code
def yX10_put : MethodName := ⟨RX10, "put", "([III)V"⟩
abbrev cX10_fill : ByteArray := prog_1_method_53_code
def yX10_fill : MethodName := ⟨RX10, "fill", "([II)V"⟩
abbrev cX10_copy : ByteArray := prog_1_method_54_code
def yX10_copy : MethodName := ⟨RX10, "copy", "([I[II)V"⟩
abbrev cX10_isIn : ByteArray := prog_1_method_55_code
def yX10_isIn : MethodName := ⟨RX10, "isIn", "(II)Z"⟩
abbrev cX10_lettersOf : ByteArray := prog_1_method_56_code
def yX10_lettersOf : MethodName := ⟨RX10, "lettersOf", "(I)I"⟩
abbrev cX10_letterSet : ByteArray := prog_1_method_57_code
def yX10_letterSet : MethodName := ⟨RX10, "letterSet", "(I)I"⟩
def RX11 : String := "FactloomLaw$Out"
def TX11 : u_T := fun k => match k with
  | 0 => ("FactloomLaw$Out", "n", "J", false)
  | _ => ("FactloomLaw$Out", "s", "Ljava/lang/String;", false)
def tyX11 : Nat → FieldType := fun k => match k with
  | 0 => .long
  | _ => .object "java/lang/String"
abbrev wsX110 : List Cond := u_ws RX11 TX11 2
theorem nmX11 : ∀ a, a < 2 → ∀ b, b < 2 → a ≠ b → (TX11 a).2.1 ≠ (TX11 b).2.1 := by decide +kernel
theorem tyX11_ok : ∀ k, k < 2 → parseFieldDescriptor (TX11 k).2.2.1 = some (tyX11 k) := by decide +kernel
abbrev cX11_init : ByteArray := prog_13_method_1_code
def yX11_init : MethodName := ⟨RX11, "<init>", "()V"⟩
def RX12 : String := "FactloomModel$Row"
def TX12 : u_T := fun k => match k with
  | 0 => ("FactloomModel$Row", "triple", "I", false)
  | 1 => ("FactloomModel$Row", "trust", "I", false)
  | 2 => ("FactloomModel$Row", "from", "I", false)
  | _ => ("FactloomModel$Row", "till", "I", false)
def tyX12 : Nat → FieldType := fun k => match k with
  | 0 => .int
  | 1 => .int
  | 2 => .int
  | _ => .int
abbrev wsX120 : List Cond := u_ws RX12 TX12 4
theorem nmX12 : ∀ a, a < 4 → ∀ b, b < 4 → a ≠ b → (TX12 a).2.1 ≠ (TX12 b).2.1 := by decide +kernel
theorem tyX12_ok : ∀ k, k < 4 → parseFieldDescriptor (TX12 k).2.2.1 = some (tyX12 k) := by decide +kernel
abbrev cX12_init : ByteArray := prog_15_method_1_code
def yX12_init : MethodName := ⟨RX12, "<init>", "()V"⟩
abbrev cX12_holds : ByteArray := prog_15_method_2_code
def yX12_holds : MethodName := ⟨RX12, "holds", "(I)Z"⟩
def RX13 : String := "FactloomModel"
def TX13 : u_T := fun k => match k with
  | 0 => ("FactloomModel", "thrown", "I", false)
  | 1 => ("FactloomModel", "heads", "[I", true)
  | 2 => ("FactloomModel", "moment", "I", false)
  | 3 => ("FactloomModel", "rows", "Ljava/util/ArrayList;", true)
  | 4 => ("FactloomModel", "batch", "Ljava/util/ArrayList;", true)
  | 5 => ("FactloomModel", "rules", "Ljava/util/ArrayList;", true)
  | 6 => ("FactloomModel", "patterns", "Ljava/util/ArrayList;", true)
  | 7 => ("FactloomModel", "not", "I", false)
  | 8 => ("FactloomModel", "singles", "I", false)
  | 9 => ("FactloomModel", "known", "[I", false)
  | 10 => ("FactloomModel", "best", "[I", false)
  | _ => ("FactloomModel", "sum", "J", false)
def tyX13 : Nat → FieldType := fun k => match k with
  | 0 => .int
  | 1 => .array .int
  | 2 => .int
  | 3 => .object "java/util/ArrayList"
  | 4 => .object "java/util/ArrayList"
  | 5 => .object "java/util/ArrayList"
  | 6 => .object "java/util/ArrayList"
  | 7 => .int
  | 8 => .int
  | 9 => .array .int
  | 10 => .array .int
  | _ => .long
abbrev wsX130 : List Cond := u_ws RX13 TX13 12
theorem nmX13 : ∀ a, a < 12 → ∀ b, b < 12 → a ≠ b → (TX13 a).2.1 ≠ (TX13 b).2.1 := by decide +kernel
theorem tyX13_ok : ∀ k, k < 12 → parseFieldDescriptor (TX13 k).2.2.1 = some (tyX13 k) := by decide +kernel
abbrev cX13_init : ByteArray := prog_14_method_1_code
def yX13_init : MethodName := ⟨RX13, "<init>", "()V"⟩
abbrev cX13_thrown : ByteArray := prog_14_method_2_code
def yX13_thrown : MethodName := ⟨RX13, "thrown", "()I"⟩
abbrev cX13_refuse : ByteArray := prog_14_method_3_code
def yX13_refuse : MethodName := ⟨RX13, "refuse", "(I)I"⟩
abbrev cX13_is : ByteArray := prog_14_method_4_code
def yX13_is : MethodName := ⟨RX13, "is", "(III)Z"⟩
abbrev cX13_digit : ByteArray := prog_14_method_5_code
def yX13_digit : MethodName := ⟨RX13, "digit", "(II)I"⟩
abbrev cX13_isTriple : ByteArray := prog_14_method_6_code
def yX13_isTriple : MethodName := ⟨RX13, "isTriple", "(I)Z"⟩
abbrev cX13_isPattern : ByteArray := prog_14_method_7_code
def yX13_isPattern : MethodName := ⟨RX13, "isPattern", "(I)Z"⟩
abbrev cX13_isWord : ByteArray := prog_14_method_8_code
def yX13_isWord : MethodName := ⟨RX13, "isWord", "(I)Z"⟩
abbrev cX13_letters : ByteArray := prog_14_method_9_code
def yX13_letters : MethodName := ⟨RX13, "letters", "(I)I"⟩
abbrev cX13_isHead : ByteArray := prog_14_method_10_code
def yX13_isHead : MethodName := ⟨RX13, "isHead", "(I)Z"⟩
abbrev cX13_place : ByteArray := prog_14_method_11_code
def yX13_place : MethodName := ⟨RX13, "place", "(I[I)I"⟩
abbrev cX13_newBinding : ByteArray := prog_14_method_12_code
def yX13_newBinding : MethodName := ⟨RX13, "newBinding", "()[I"⟩
abbrev cX13_place_ : ByteArray := prog_14_method_13_code
def yX13_place_ : MethodName := ⟨RX13, "place", "(I)I"⟩
abbrev cX13_tripleAt : ByteArray := prog_14_method_14_code
def yX13_tripleAt : MethodName := ⟨RX13, "tripleAt", "(I)I"⟩
abbrev cX13_next : ByteArray := prog_14_method_15_code
def yX13_next : MethodName := ⟨RX13, "next", "([II)Z"⟩
abbrev cX13_first : ByteArray := prog_14_method_16_code
def yX13_first : MethodName := ⟨RX13, "first", "(I)[I"⟩
abbrev cX13_numberOf : ByteArray := prog_14_method_17_code
def yX13_numberOf : MethodName := ⟨RX13, "numberOf", "([I)I"⟩
abbrev cX13_tell : ByteArray := prog_14_method_18_code
def yX13_tell : MethodName := ⟨RX13, "tell", "(II)I"⟩
abbrev cX13_unsay : ByteArray := prog_14_method_19_code
def yX13_unsay : MethodName := ⟨RX13, "unsay", "(I)I"⟩
abbrev cX13_drop : ByteArray := prog_14_method_20_code
def yX13_drop : MethodName := ⟨RX13, "drop", "()I"⟩
abbrev cX13_committed : ByteArray := prog_14_method_21_code
def yX13_committed : MethodName := ⟨RX13, "committed", "()Ljava/util/ArrayList;"⟩
abbrev cX13_commit : ByteArray := prog_14_method_22_code
def yX13_commit : MethodName := ⟨RX13, "commit", "()I"⟩
abbrev cX13_forget : ByteArray := prog_14_method_23_code
def yX13_forget : MethodName := ⟨RX13, "forget", "()V"⟩
abbrev cX13_join : ByteArray := prog_14_method_24_code
def yX13_join : MethodName := ⟨RX13, "join", "(II)I"⟩
abbrev cX13_countHeads : ByteArray := prog_14_method_25_code
def yX13_countHeads : MethodName := ⟨RX13, "countHeads", "()I"⟩
abbrev cX13_part : ByteArray := prog_14_method_26_code
def yX13_part : MethodName := ⟨RX13, "part", "()I"⟩
abbrev cX13_told : ByteArray := prog_14_method_27_code
def yX13_told : MethodName := ⟨RX13, "told", "(Ljava/util/ArrayList;II)[Z"⟩
abbrev cX13_broken : ByteArray := prog_14_method_28_code
def yX13_broken : MethodName := ⟨RX13, "broken", "(Ljava/util/ArrayList;I)I"⟩
abbrev cX13_single : ByteArray := prog_14_method_29_code
def yX13_single : MethodName := ⟨RX13, "single", "(IZ)I"⟩
abbrev cX13_rule : ByteArray := prog_14_method_30_code
def yX13_rule : MethodName := ⟨RX13, "rule", "(III)I"⟩
abbrev cX13_unrule : ByteArray := prog_14_method_31_code
def yX13_unrule : MethodName := ⟨RX13, "unrule", "()I"⟩
abbrev cX13_depths : ByteArray := prog_14_method_32_code
def yX13_depths : MethodName := ⟨RX13, "depths", "([Z)[I"⟩
abbrev cX13_depthsNow : ByteArray := prog_14_method_33_code
def yX13_depthsNow : MethodName := ⟨RX13, "depthsNow", "()[I"⟩
abbrev cX13_pattern : ByteArray := prog_14_method_34_code
def yX13_pattern : MethodName := ⟨RX13, "pattern", "(I)I"⟩
abbrev cX13_not : ByteArray := prog_14_method_35_code
def yX13_not : MethodName := ⟨RX13, "not", "(I)I"⟩
abbrev cX13_clear : ByteArray := prog_14_method_36_code
def yX13_clear : MethodName := ⟨RX13, "clear", "()I"⟩
abbrev cX13_lettersOfAll : ByteArray := prog_14_method_37_code
def yX13_lettersOfAll : MethodName := ⟨RX13, "lettersOfAll", "()I"⟩
abbrev cX13_isDenied : ByteArray := prog_14_method_38_code
def yX13_isDenied : MethodName := ⟨RX13, "isDenied", "([I[II)Z"⟩
abbrev cX13_answersNow : ByteArray := prog_14_method_39_code
def yX13_answersNow : MethodName := ⟨RX13, "answersNow", "([I)Ljava/util/ArrayList;"⟩
abbrev cX13_sizeNow : ByteArray := prog_14_method_40_code
def yX13_sizeNow : MethodName := ⟨RX13, "sizeNow", "([II)I"⟩
abbrev cX13_boundNow : ByteArray := prog_14_method_41_code
def yX13_boundNow : MethodName := ⟨RX13, "boundNow", "([I)J"⟩
abbrev cX13_covers : ByteArray := prog_14_method_42_code
def yX13_covers : MethodName := ⟨RX13, "covers", "([I)Z"⟩
abbrev cX13_waysNow : ByteArray := prog_14_method_43_code
def yX13_waysNow : MethodName := ⟨RX13, "waysNow", "([II)I"⟩
abbrev cX13_merits : ByteArray := prog_14_method_44_code
def yX13_merits : MethodName := ⟨RX13, "merits", "()[I"⟩
abbrev cX13_meritsNow : ByteArray := prog_14_method_45_code
def yX13_meritsNow : MethodName := ⟨RX13, "meritsNow", "()[I"⟩
abbrev cX13_since : ByteArray := prog_14_method_46_code
def yX13_since : MethodName := ⟨RX13, "since", "(I)I"⟩
abbrev cX13_ofFactNow : ByteArray := prog_14_method_47_code
def yX13_ofFactNow : MethodName := ⟨RX13, "ofFactNow", "(II)I"⟩
abbrev cX13_ofFact : ByteArray := prog_14_method_48_code
def yX13_ofFact : MethodName := ⟨RX13, "ofFact", "(II)I"⟩
abbrev cX13_told_ : ByteArray := prog_14_method_49_code
def yX13_told_ : MethodName := ⟨RX13, "told", "(II)Z"⟩
abbrev cX13_count : ByteArray := prog_14_method_50_code
def yX13_count : MethodName := ⟨RX13, "count", "([Z)I"⟩
abbrev cX13_past : ByteArray := prog_14_method_51_code
def yX13_past : MethodName := ⟨RX13, "past", "(I)I"⟩
abbrev cX13_answers : ByteArray := prog_14_method_52_code
def yX13_answers : MethodName := ⟨RX13, "answers", "()I"⟩
abbrev cX13_answer : ByteArray := prog_14_method_53_code
def yX13_answer : MethodName := ⟨RX13, "answer", "(I)I"⟩
abbrev cX13_size : ByteArray := prog_14_method_54_code
def yX13_size : MethodName := ⟨RX13, "size", "(I)I"⟩
abbrev cX13_bound : ByteArray := prog_14_method_55_code
def yX13_bound : MethodName := ⟨RX13, "bound", "()J"⟩
abbrev cX13_chainNow : ByteArray := prog_14_method_56_code
def yX13_chainNow : MethodName := ⟨RX13, "chainNow", "([IIII)I"⟩
abbrev cX13_chain : ByteArray := prog_14_method_57_code
def yX13_chain : MethodName := ⟨RX13, "chain", "(III)I"⟩
abbrev cX13_threeDigits : ByteArray := prog_14_method_58_code
def yX13_threeDigits : MethodName := ⟨RX13, "threeDigits", "(I)Ljava/lang/String;"⟩
abbrev cX13_whyNow : ByteArray := prog_14_method_59_code
def yX13_whyNow : MethodName := ⟨RX13, "whyNow", "(I)Ljava/lang/String;"⟩
abbrev cX13_why : ByteArray := prog_14_method_60_code
def yX13_why : MethodName := ⟨RX13, "why", "(I)Ljava/lang/String;"⟩
abbrev cX13_holding : ByteArray := prog_14_method_61_code
def yX13_holding : MethodName := ⟨RX13, "holding", "([I)I"⟩
abbrev cX13_deepest : ByteArray := prog_14_method_62_code
def yX13_deepest : MethodName := ⟨RX13, "deepest", "([I)I"⟩
abbrev cX13_storeNow : ByteArray := prog_14_method_63_code
def yX13_storeNow : MethodName := ⟨RX13, "storeNow", "([II)I"⟩
abbrev cX13_store : ByteArray := prog_14_method_64_code
def yX13_store : MethodName := ⟨RX13, "store", "(I)I"⟩
abbrev cX13_broken_ : ByteArray := prog_14_method_65_code
def yX13_broken_ : MethodName := ⟨RX13, "broken", "()I"⟩
abbrev cX13_lost : ByteArray := prog_14_method_66_code
def yX13_lost : MethodName := ⟨RX13, "lost", "(I)I"⟩
abbrev cX13_hasWay : ByteArray := prog_14_method_67_code
def yX13_hasWay : MethodName := ⟨RX13, "hasWay", "([II)Z"⟩
abbrev cX13_isSoundNow : ByteArray := prog_14_method_68_code
def yX13_isSoundNow : MethodName := ⟨RX13, "isSoundNow", "([I[I)Z"⟩
abbrev cX13_isSound : ByteArray := prog_14_method_69_code
def yX13_isSound : MethodName := ⟨RX13, "isSound", "()Z"⟩
abbrev cX13_add : ByteArray := prog_14_method_70_code
def yX13_add : MethodName := ⟨RX13, "add", "(J)V"⟩
abbrev cX13_digest : ByteArray := prog_14_method_71_code
def yX13_digest : MethodName := ⟨RX13, "digest", "()J"⟩
def RJx145de : String := "java/io/Serializable"
def TJx145de : u_T := fun k => match k with
  | _ => ("", "", "", false)
def tyJx145de : Nat → FieldType := fun k => match k with
  | _ => .int
abbrev wsJx145de0 : List Cond := u_ws RJx145de TJx145de 0
theorem nmJx145de : ∀ a, a < 0 → ∀ b, b < 0 → a ≠ b → (TJx145de a).2.1 ≠ (TJx145de b).2.1 := by decide +kernel
theorem tyJx145de_ok : ∀ k, k < 0 → parseFieldDescriptor (TJx145de k).2.2.1 = some (tyJx145de k) := by decide +kernel
def RJ5 : String := "java/lang/AbstractStringBuilder"
def TJ5 : u_T := fun k => match k with
  | _ => ("", "", "", false)
def tyJ5 : Nat → FieldType := fun k => match k with
  | _ => .int
abbrev wsJ50 : List Cond := u_ws RJ5 TJ5 0
theorem nmJ5 : ∀ a, a < 0 → ∀ b, b < 0 → a ≠ b → (TJ5 a).2.1 ≠ (TJ5 b).2.1 := by decide +kernel
theorem tyJ5_ok : ∀ k, k < 0 → parseFieldDescriptor (TJ5 k).2.2.1 = some (tyJ5 k) := by decide +kernel
abbrev cJ5_init_d00df : ByteArray := prog_17_method_2_code
def yJ5_init_d00df : MethodName := ⟨RJ5, "<init>", "(I)V"⟩
abbrev cJ5_length_8abf5 : ByteArray := prog_17_method_6_code
def yJ5_length_8abf5 : MethodName := ⟨RJ5, "length", "()I"⟩
abbrev cJ5_ensureCapacityInternal_d00df : ByteArray := prog_17_method_9_code
def yJ5_ensureCapacityInternal_d00df : MethodName := ⟨RJ5, "ensureCapacityInternal", "(I)V"⟩
abbrev cJ5_newCapacity_0f7a4 : ByteArray := prog_17_method_10_code
def yJ5_newCapacity_0f7a4 : MethodName := ⟨RJ5, "newCapacity", "(I)I"⟩
abbrev cJ5_inflate_da8c8 : ByteArray := prog_17_method_11_code
def yJ5_inflate_da8c8 : MethodName := ⟨RJ5, "inflate", "()V"⟩
abbrev cJ5_append_cf1ce : ByteArray := prog_17_method_22_code
def yJ5_append_cf1ce : MethodName := ⟨RJ5, "append", "(Ljava/lang/String;)Ljava/lang/AbstractStringBuilder;"⟩
abbrev cJ5_appendNull_278bc : ByteArray := prog_17_method_26_code
def yJ5_appendNull_278bc : MethodName := ⟨RJ5, "appendNull", "()Ljava/lang/AbstractStringBuilder;"⟩
abbrev cJ5_append_3fe6f : ByteArray := prog_17_method_31_code
def yJ5_append_3fe6f : MethodName := ⟨RJ5, "append", "(C)Ljava/lang/AbstractStringBuilder;"⟩
abbrev cJ5_append_c97b9 : ByteArray := prog_17_method_32_code
def yJ5_append_c97b9 : MethodName := ⟨RJ5, "append", "(I)Ljava/lang/AbstractStringBuilder;"⟩
abbrev cJ5_getValue_6d5f1 : ByteArray := prog_17_method_64_code
def yJ5_getValue_6d5f1 : MethodName := ⟨RJ5, "getValue", "()[B"⟩
abbrev cJ5_isLatin1_aae02 : ByteArray := prog_17_method_68_code
def yJ5_isLatin1_aae02 : MethodName := ⟨RJ5, "isLatin1", "()Z"⟩
abbrev cJ5_inflateIfNeededFor_a7421 : ByteArray := prog_17_method_71_code
def yJ5_inflateIfNeededFor_a7421 : MethodName := ⟨RJ5, "inflateIfNeededFor", "(Ljava/lang/String;)V"⟩
abbrev cJ5_putStringAt_47b60 : ByteArray := prog_17_method_73_code
def yJ5_putStringAt_47b60 : MethodName := ⟨RJ5, "putStringAt", "(ILjava/lang/String;)V"⟩
def RJx2cfe8 : String := "java/lang/Appendable"
def TJx2cfe8 : u_T := fun k => match k with
  | _ => ("", "", "", false)
def tyJx2cfe8 : Nat → FieldType := fun k => match k with
  | _ => .int
abbrev wsJx2cfe80 : List Cond := u_ws RJx2cfe8 TJx2cfe8 0
theorem nmJx2cfe8 : ∀ a, a < 0 → ∀ b, b < 0 → a ≠ b → (TJx2cfe8 a).2.1 ≠ (TJx2cfe8 b).2.1 := by decide +kernel
theorem tyJx2cfe8_ok : ∀ k, k < 0 → parseFieldDescriptor (TJx2cfe8 k).2.2.1 = some (tyJx2cfe8 k) := by decide +kernel
def RJx9f9b0 : String := "java/lang/CharSequence"
def TJx9f9b0 : u_T := fun k => match k with
  | _ => ("", "", "", false)
def tyJx9f9b0 : Nat → FieldType := fun k => match k with
  | _ => .int
abbrev wsJx9f9b00 : List Cond := u_ws RJx9f9b0 TJx9f9b0 0
theorem nmJx9f9b0 : ∀ a, a < 0 → ∀ b, b < 0 → a ≠ b → (TJx9f9b0 a).2.1 ≠ (TJx9f9b0 b).2.1 := by decide +kernel
theorem tyJx9f9b0_ok : ∀ k, k < 0 → parseFieldDescriptor (TJx9f9b0 k).2.2.1 = some (tyJx9f9b0 k) := by decide +kernel
def RJx8e188 : String := "java/lang/Cloneable"
def TJx8e188 : u_T := fun k => match k with
  | _ => ("", "", "", false)
def tyJx8e188 : Nat → FieldType := fun k => match k with
  | _ => .int
abbrev wsJx8e1880 : List Cond := u_ws RJx8e188 TJx8e188 0
theorem nmJx8e188 : ∀ a, a < 0 → ∀ b, b < 0 → a ≠ b → (TJx8e188 a).2.1 ≠ (TJx8e188 b).2.1 := by decide +kernel
theorem tyJx8e188_ok : ∀ k, k < 0 → parseFieldDescriptor (TJx8e188 k).2.2.1 = some (tyJx8e188 k) := by decide +kernel
def RJxb160c : String := "java/lang/Comparable"
def TJxb160c : u_T := fun k => match k with
  | _ => ("", "", "", false)
def tyJxb160c : Nat → FieldType := fun k => match k with
  | _ => .int
abbrev wsJxb160c0 : List Cond := u_ws RJxb160c TJxb160c 0
theorem nmJxb160c : ∀ a, a < 0 → ∀ b, b < 0 → a ≠ b → (TJxb160c a).2.1 ≠ (TJxb160c b).2.1 := by decide +kernel
theorem tyJxb160c_ok : ∀ k, k < 0 → parseFieldDescriptor (TJxb160c k).2.2.1 = some (tyJxb160c k) := by decide +kernel
def RJxabbfe : String := "java/lang/Integer$IntegerCache"
def TJxabbfe : u_T := fun k => match k with
  | _ => ("", "", "", false)
def tyJxabbfe : Nat → FieldType := fun k => match k with
  | _ => .int
abbrev wsJxabbfe0 : List Cond := u_ws RJxabbfe TJxabbfe 0
theorem nmJxabbfe : ∀ a, a < 0 → ∀ b, b < 0 → a ≠ b → (TJxabbfe a).2.1 ≠ (TJxabbfe b).2.1 := by decide +kernel
theorem tyJxabbfe_ok : ∀ k, k < 0 → parseFieldDescriptor (TJxabbfe k).2.2.1 = some (tyJxabbfe k) := by decide +kernel
def RJ6 : String := "java/lang/Integer"
def TJ6 : u_T := fun k => match k with
  | _ => ("java/lang/Integer", "value", "I", true)
def tyJ6 : Nat → FieldType := fun k => match k with
  | _ => .int
abbrev wsJ60 : List Cond := u_ws RJ6 TJ6 1
theorem nmJ6 : ∀ a, a < 1 → ∀ b, b < 1 → a ≠ b → (TJ6 a).2.1 ≠ (TJ6 b).2.1 := by decide +kernel
theorem tyJ6_ok : ∀ k, k < 1 → parseFieldDescriptor (TJ6 k).2.2.1 = some (tyJ6 k) := by decide +kernel
abbrev cJ6_getChars_ba4f3 : ByteArray := prog_26_method_12_code
def yJ6_getChars_ba4f3 : MethodName := ⟨RJ6, "getChars", "(II[B)I"⟩
abbrev cJ6_stringSize_0f7a4 : ByteArray := prog_26_method_13_code
def yJ6_stringSize_0f7a4 : MethodName := ⟨RJ6, "stringSize", "(I)I"⟩
abbrev cJ6_valueOf_2dffe : ByteArray := prog_26_method_22_code
def yJ6_valueOf_2dffe : MethodName := ⟨RJ6, "valueOf", "(I)Ljava/lang/Integer;"⟩
abbrev cJ6_init_d00df : ByteArray := prog_26_method_23_code
def yJ6_init_d00df : MethodName := ⟨RJ6, "<init>", "(I)V"⟩
abbrev cJ6_intValue_8abf5 : ByteArray := prog_26_method_27_code
def yJ6_intValue_8abf5 : MethodName := ⟨RJ6, "intValue", "()I"⟩
abbrev cJ6_bitCount_0f7a4 : ByteArray := prog_26_method_49_code
def yJ6_bitCount_0f7a4 : MethodName := ⟨RJ6, "bitCount", "(I)I"⟩
def RJxab1ab : String := "java/lang/Iterable"
def TJxab1ab : u_T := fun k => match k with
  | _ => ("", "", "", false)
def tyJxab1ab : Nat → FieldType := fun k => match k with
  | _ => .int
abbrev wsJxab1ab0 : List Cond := u_ws RJxab1ab TJxab1ab 0
theorem nmJxab1ab : ∀ a, a < 0 → ∀ b, b < 0 → a ≠ b → (TJxab1ab a).2.1 ≠ (TJxab1ab b).2.1 := by decide +kernel
theorem tyJxab1ab_ok : ∀ k, k < 0 → parseFieldDescriptor (TJxab1ab k).2.2.1 = some (tyJxab1ab k) := by decide +kernel
def RJ9 : String := "java/lang/Math"
def TJ9 : u_T := fun k => match k with
  | _ => ("", "", "", false)
def tyJ9 : Nat → FieldType := fun k => match k with
  | _ => .int
abbrev wsJ90 : List Cond := u_ws RJ9 TJ9 0
theorem nmJ9 : ∀ a, a < 0 → ∀ b, b < 0 → a ≠ b → (TJ9 a).2.1 ≠ (TJ9 b).2.1 := by decide +kernel
theorem tyJ9_ok : ∀ k, k < 0 → parseFieldDescriptor (TJ9 k).2.2.1 = some (tyJ9 k) := by decide +kernel
abbrev cJ9_max_7cf53 : ByteArray := prog_29_method_65_code
def yJ9_max_7cf53 : MethodName := ⟨RJ9, "max", "(II)I"⟩
abbrev cJ9_min_7cf53 : ByteArray := prog_29_method_69_code
def yJ9_min_7cf53 : MethodName := ⟨RJ9, "min", "(II)I"⟩
abbrev cJ9_min_f86c9 : ByteArray := prog_29_method_70_code
def yJ9_min_f86c9 : MethodName := ⟨RJ9, "min", "(JJ)J"⟩
def RJxd2413 : String := "java/lang/Number"
def TJxd2413 : u_T := fun k => match k with
  | _ => ("", "", "", false)
def tyJxd2413 : Nat → FieldType := fun k => match k with
  | _ => .int
abbrev wsJxd24130 : List Cond := u_ws RJxd2413 TJxd2413 0
theorem nmJxd2413 : ∀ a, a < 0 → ∀ b, b < 0 → a ≠ b → (TJxd2413 a).2.1 ≠ (TJxd2413 b).2.1 := by decide +kernel
theorem tyJxd2413_ok : ∀ k, k < 0 → parseFieldDescriptor (TJxd2413 k).2.2.1 = some (tyJxd2413 k) := by decide +kernel
abbrev cJxd2413_init_da8c8 : ByteArray := prog_30_method_1_code
def yJxd2413_init_da8c8 : MethodName := ⟨RJxd2413, "<init>", "()V"⟩
def RJ0 : String := "java/lang/String"
def TJ0 : u_T := fun k => match k with
  | 0 => ("java/lang/String", "value", "[B", true)
  | 1 => ("java/lang/String", "coder", "B", true)
  | 2 => ("java/lang/String", "hash", "I", false)
  | _ => ("java/lang/String", "hashIsZero", "Z", false)
def tyJ0 : Nat → FieldType := fun k => match k with
  | 0 => .array .byte
  | 1 => .byte
  | 2 => .int
  | _ => .boolean
abbrev wsJ00 : List Cond := u_ws RJ0 TJ0 4
theorem nmJ0 : ∀ a, a < 4 → ∀ b, b < 4 → a ≠ b → (TJ0 a).2.1 ≠ (TJ0 b).2.1 := by decide +kernel
theorem tyJ0_ok : ∀ k, k < 4 → parseFieldDescriptor (TJ0 k).2.2.1 = some (tyJ0 k) := by decide +kernel
abbrev cJ0_init_81219 : ByteArray := prog_32_method_53_code
def yJ0_init_81219 : MethodName := ⟨RJ0, "<init>", "(Ljava/lang/StringBuilder;)V"⟩
abbrev cJ0_length_8abf5 : ByteArray := prog_32_method_54_code
def yJ0_length_8abf5 : MethodName := ⟨RJ0, "length", "()I"⟩
abbrev cJ0_getBytes_840e7 : ByteArray := prog_32_method_147_code
def yJ0_getBytes_840e7 : MethodName := ⟨RJ0, "getBytes", "([BIB)V"⟩
abbrev cJ0_init_db425 : ByteArray := prog_32_method_150_code
def yJ0_init_db425 : MethodName := ⟨RJ0, "<init>", "(Ljava/lang/AbstractStringBuilder;Ljava/lang/Void;)V"⟩
abbrev cJ0_coder_7d493 : ByteArray := prog_32_method_152_code
def yJ0_coder_7d493 : MethodName := ⟨RJ0, "coder", "()B"⟩
abbrev cJ0_checkIndex_df160 : ByteArray := prog_32_method_155_code
def yJ0_checkIndex_df160 : MethodName := ⟨RJ0, "checkIndex", "(II)V"⟩
abbrev cJ0_checkBoundsOffCount_cabcc : ByteArray := prog_32_method_157_code
def yJ0_checkBoundsOffCount_cabcc : MethodName := ⟨RJ0, "checkBoundsOffCount", "(III)I"⟩
abbrev cJ0_checkBoundsBeginEnd_23922 : ByteArray := prog_32_method_158_code
def yJ0_checkBoundsBeginEnd_23922 : MethodName := ⟨RJ0, "checkBoundsBeginEnd", "(III)V"⟩
def RJ4 : String := "java/lang/StringBuilder"
def TJ4 : u_T := fun k => match k with
  | 0 => ("java/lang/AbstractStringBuilder", "value", "[B", false)
  | 1 => ("java/lang/AbstractStringBuilder", "coder", "B", false)
  | 2 => ("java/lang/AbstractStringBuilder", "maybeLatin1", "Z", false)
  | _ => ("java/lang/AbstractStringBuilder", "count", "I", false)
def tyJ4 : Nat → FieldType := fun k => match k with
  | 0 => .array .byte
  | 1 => .byte
  | 2 => .boolean
  | _ => .int
abbrev wsJ40 : List Cond := u_ws RJ4 TJ4 4
theorem nmJ4 : ∀ a, a < 4 → ∀ b, b < 4 → a ≠ b → (TJ4 a).2.1 ≠ (TJ4 b).2.1 := by decide +kernel
theorem tyJ4_ok : ∀ k, k < 4 → parseFieldDescriptor (TJ4 k).2.2.1 = some (tyJ4 k) := by decide +kernel
abbrev cJ4_init_da8c8 : ByteArray := prog_33_method_1_code
def yJ4_init_da8c8 : MethodName := ⟨RJ4, "<init>", "()V"⟩
abbrev cJ4_append_15ec4 : ByteArray := prog_33_method_7_code
def yJ4_append_15ec4 : MethodName := ⟨RJ4, "append", "(Ljava/lang/String;)Ljava/lang/StringBuilder;"⟩
abbrev cJ4_append_cf468 : ByteArray := prog_33_method_14_code
def yJ4_append_cf468 : MethodName := ⟨RJ4, "append", "(C)Ljava/lang/StringBuilder;"⟩
abbrev cJ4_append_bf812 : ByteArray := prog_33_method_15_code
def yJ4_append_bf812 : MethodName := ⟨RJ4, "append", "(I)Ljava/lang/StringBuilder;"⟩
abbrev cJ4_toString_0e30d : ByteArray := prog_33_method_42_code
def yJ4_toString_0e30d : MethodName := ⟨RJ4, "toString", "()Ljava/lang/String;"⟩
abbrev cJ4_length_8abf5 : ByteArray := prog_33_method_93_code
def yJ4_length_8abf5 : MethodName := ⟨RJ4, "length", "()I"⟩
def RJ1 : String := "java/lang/StringLatin1"
def TJ1 : u_T := fun k => match k with
  | _ => ("", "", "", false)
def tyJ1 : Nat → FieldType := fun k => match k with
  | _ => .int
abbrev wsJ10 : List Cond := u_ws RJ1 TJ1 0
theorem nmJ1 : ∀ a, a < 0 → ∀ b, b < 0 → a ≠ b → (TJ1 a).2.1 ≠ (TJ1 b).2.1 := by decide +kernel
theorem tyJ1_ok : ∀ k, k < 0 → parseFieldDescriptor (TJ1 k).2.2.1 = some (tyJ1 k) := by decide +kernel
abbrev cJ1_canEncode_fc78d : ByteArray := prog_34_method_3_code
def yJ1_canEncode_fc78d : MethodName := ⟨RJ1, "canEncode", "(C)Z"⟩
abbrev cJ1_inflate_0e8fd : ByteArray := prog_34_method_50_code
def yJ1_inflate_0e8fd : MethodName := ⟨RJ1, "inflate", "([BI[BII)V"⟩
def RJ2 : String := "java/lang/StringUTF16"
def TJ2 : u_T := fun k => match k with
  | _ => ("", "", "", false)
def tyJ2 : Nat → FieldType := fun k => match k with
  | _ => .int
abbrev wsJ20 : List Cond := u_ws RJ2 TJ2 0
theorem nmJ2 : ∀ a, a < 0 → ∀ b, b < 0 → a ≠ b → (TJ2 a).2.1 ≠ (TJ2 b).2.1 := by decide +kernel
theorem tyJ2_ok : ∀ k, k < 0 → parseFieldDescriptor (TJ2 k).2.2.1 = some (tyJ2 k) := by decide +kernel
abbrev cJ2_newBytesFor_77867 : ByteArray := prog_35_method_2_code
def yJ2_newBytesFor_77867 : MethodName := ⟨RJ2, "newBytesFor", "(I)[B"⟩
abbrev cJ2_newBytesLength_0f7a4 : ByteArray := prog_35_method_3_code
def yJ2_newBytesLength_0f7a4 : MethodName := ⟨RJ2, "newBytesLength", "(I)I"⟩
abbrev cJ2_putChar_b72d1 : ByteArray := prog_35_method_4_code
def yJ2_putChar_b72d1 : MethodName := ⟨RJ2, "putChar", "([BII)V"⟩
abbrev cJ2_getChar_3b067 : ByteArray := prog_35_method_5_code
def yJ2_getChar_3b067 : MethodName := ⟨RJ2, "getChar", "([BI)C"⟩
abbrev cJ2_length_9d52b : ByteArray := prog_35_method_6_code
def yJ2_length_9d52b : MethodName := ⟨RJ2, "length", "([B)I"⟩
abbrev cJ2_coderFromArrayLen_85cad : ByteArray := prog_35_method_15_code
def yJ2_coderFromArrayLen_85cad : MethodName := ⟨RJ2, "coderFromArrayLen", "([BI)B"⟩
abbrev cJ2_compress_39247 : ByteArray := prog_35_method_17_code
def yJ2_compress_39247 : MethodName := ⟨RJ2, "compress", "([BII)[B"⟩
abbrev cJ2_compress_5af95 : ByteArray := prog_35_method_22_code
def yJ2_compress_5af95 : MethodName := ⟨RJ2, "compress", "([BI[BII)I"⟩
abbrev cJ2_putCharSB_b72d1 : ByteArray := prog_35_method_71_code
def yJ2_putCharSB_b72d1 : MethodName := ⟨RJ2, "putCharSB", "([BII)V"⟩
abbrev cJ2_getChars_46870 : ByteArray := prog_35_method_77_code
def yJ2_getChars_46870 : MethodName := ⟨RJ2, "getChars", "(III[B)I"⟩
abbrev cJ2_putCharsAt_cd4e5 : ByteArray := prog_35_method_81_code
def yJ2_putCharsAt_cd4e5 : MethodName := ⟨RJ2, "putCharsAt", "([BICCCC)I"⟩
abbrev cJ2_inflate_0e8fd : ByteArray := prog_35_method_86_code
def yJ2_inflate_0e8fd : MethodName := ⟨RJ2, "inflate", "([BI[BII)V"⟩
abbrev cJ2_getChars_ba4f3 : ByteArray := prog_35_method_89_code
def yJ2_getChars_ba4f3 : MethodName := ⟨RJ2, "getChars", "(II[B)I"⟩
abbrev cJ2_checkIndex_2214a : ByteArray := prog_35_method_91_code
def yJ2_checkIndex_2214a : MethodName := ⟨RJ2, "checkIndex", "(I[B)V"⟩
abbrev cJ2_checkBoundsBeginEnd_d044e : ByteArray := prog_35_method_93_code
def yJ2_checkBoundsBeginEnd_d044e : MethodName := ⟨RJ2, "checkBoundsBeginEnd", "(II[B)V"⟩
abbrev cJ2_checkBoundsOffCount_d044e : ByteArray := prog_35_method_94_code
def yJ2_checkBoundsOffCount_d044e : MethodName := ⟨RJ2, "checkBoundsOffCount", "(II[B)V"⟩
def RJ10 : String := "java/lang/System"
def TJ10 : u_T := fun k => match k with
  | _ => ("", "", "", false)
def tyJ10 : Nat → FieldType := fun k => match k with
  | _ => .int
abbrev wsJ100 : List Cond := u_ws RJ10 TJ10 0
theorem nmJ10 : ∀ a, a < 0 → ∀ b, b < 0 → a ≠ b → (TJ10 a).2.1 ≠ (TJ10 b).2.1 := by decide +kernel
theorem tyJ10_ok : ∀ k, k < 0 → parseFieldDescriptor (TJ10 k).2.2.1 = some (tyJ10 k) := by decide +kernel
def RJxfd54e : String := "java/lang/constant/Constable"
def TJxfd54e : u_T := fun k => match k with
  | _ => ("", "", "", false)
def tyJxfd54e : Nat → FieldType := fun k => match k with
  | _ => .int
abbrev wsJxfd54e0 : List Cond := u_ws RJxfd54e TJxfd54e 0
theorem nmJxfd54e : ∀ a, a < 0 → ∀ b, b < 0 → a ≠ b → (TJxfd54e a).2.1 ≠ (TJxfd54e b).2.1 := by decide +kernel
theorem tyJxfd54e_ok : ∀ k, k < 0 → parseFieldDescriptor (TJxfd54e k).2.2.1 = some (tyJxfd54e k) := by decide +kernel
def RJx3cf43 : String := "java/lang/constant/ConstantDesc"
def TJx3cf43 : u_T := fun k => match k with
  | _ => ("", "", "", false)
def tyJx3cf43 : Nat → FieldType := fun k => match k with
  | _ => .int
abbrev wsJx3cf430 : List Cond := u_ws RJx3cf43 TJx3cf43 0
theorem nmJx3cf43 : ∀ a, a < 0 → ∀ b, b < 0 → a ≠ b → (TJx3cf43 a).2.1 ≠ (TJx3cf43 b).2.1 := by decide +kernel
theorem tyJx3cf43_ok : ∀ k, k < 0 → parseFieldDescriptor (TJx3cf43 k).2.2.1 = some (tyJx3cf43 k) := by decide +kernel
def RJxa1e45 : String := "java/util/AbstractCollection"
def TJxa1e45 : u_T := fun k => match k with
  | _ => ("", "", "", false)
def tyJxa1e45 : Nat → FieldType := fun k => match k with
  | _ => .int
abbrev wsJxa1e450 : List Cond := u_ws RJxa1e45 TJxa1e45 0
theorem nmJxa1e45 : ∀ a, a < 0 → ∀ b, b < 0 → a ≠ b → (TJxa1e45 a).2.1 ≠ (TJxa1e45 b).2.1 := by decide +kernel
theorem tyJxa1e45_ok : ∀ k, k < 0 → parseFieldDescriptor (TJxa1e45 k).2.2.1 = some (tyJxa1e45 k) := by decide +kernel
abbrev cJxa1e45_init_da8c8 : ByteArray := prog_40_method_1_code
def yJxa1e45_init_da8c8 : MethodName := ⟨RJxa1e45, "<init>", "()V"⟩
def RJxc12de : String := "java/util/AbstractList"
def TJxc12de : u_T := fun k => match k with
  | _ => ("", "", "", false)
def tyJxc12de : Nat → FieldType := fun k => match k with
  | _ => .int
abbrev wsJxc12de0 : List Cond := u_ws RJxc12de TJxc12de 0
theorem nmJxc12de : ∀ a, a < 0 → ∀ b, b < 0 → a ≠ b → (TJxc12de a).2.1 ≠ (TJxc12de b).2.1 := by decide +kernel
theorem tyJxc12de_ok : ∀ k, k < 0 → parseFieldDescriptor (TJxc12de k).2.2.1 = some (tyJxc12de k) := by decide +kernel
abbrev cJxc12de_init_da8c8 : ByteArray := prog_41_method_1_code
def yJxc12de_init_da8c8 : MethodName := ⟨RJxc12de, "<init>", "()V"⟩
def RJx35411 : String := "java/util/ArrayList$Itr"
def TJx35411 : u_T := fun k => match k with
  | 0 => ("java/util/ArrayList$Itr", "cursor", "I", false)
  | 1 => ("java/util/ArrayList$Itr", "lastRet", "I", false)
  | 2 => ("java/util/ArrayList$Itr", "expectedModCount", "I", false)
  | _ => ("java/util/ArrayList$Itr", "this$0", "Ljava/util/ArrayList;", true)
def tyJx35411 : Nat → FieldType := fun k => match k with
  | 0 => .int
  | 1 => .int
  | 2 => .int
  | _ => .object "java/util/ArrayList"
abbrev wsJx354110 : List Cond := u_ws RJx35411 TJx35411 4
theorem nmJx35411 : ∀ a, a < 4 → ∀ b, b < 4 → a ≠ b → (TJx35411 a).2.1 ≠ (TJx35411 b).2.1 := by decide +kernel
theorem tyJx35411_ok : ∀ k, k < 4 → parseFieldDescriptor (TJx35411 k).2.2.1 = some (tyJx35411 k) := by decide +kernel
abbrev cJx35411_init_45d68 : ByteArray := prog_43_method_1_code
def yJx35411_init_45d68 : MethodName := ⟨RJx35411, "<init>", "(Ljava/util/ArrayList;)V"⟩
abbrev cJx35411_hasNext_aae02 : ByteArray := prog_43_method_2_code
def yJx35411_hasNext_aae02 : MethodName := ⟨RJx35411, "hasNext", "()Z"⟩
abbrev cJx35411_next_0502b : ByteArray := prog_43_method_3_code
def yJx35411_next_0502b : MethodName := ⟨RJx35411, "next", "()Ljava/lang/Object;"⟩
abbrev cJx35411_checkForComodification_da8c8 : ByteArray := prog_43_method_6_code
def yJx35411_checkForComodification_da8c8 : MethodName := ⟨RJx35411, "checkForComodification", "()V"⟩
def RJx4a65c : String := "java/util/ArrayList"
def TJx4a65c : u_T := fun k => match k with
  | 0 => ("java/util/AbstractList", "modCount", "I", false)
  | 1 => ("java/util/ArrayList", "elementData", "[Ljava/lang/Object;", false)
  | _ => ("java/util/ArrayList", "size", "I", false)
def tyJx4a65c : Nat → FieldType := fun k => match k with
  | 0 => .int
  | 1 => .array (.object "java/lang/Object")
  | _ => .int
abbrev wsJx4a65c0 : List Cond := u_ws RJx4a65c TJx4a65c 3
theorem nmJx4a65c : ∀ a, a < 3 → ∀ b, b < 3 → a ≠ b → (TJx4a65c a).2.1 ≠ (TJx4a65c b).2.1 := by decide +kernel
theorem tyJx4a65c_ok : ∀ k, k < 3 → parseFieldDescriptor (TJx4a65c k).2.2.1 = some (tyJx4a65c k) := by decide +kernel
abbrev cJx4a65c_init_da8c8 : ByteArray := prog_42_method_2_code
def yJx4a65c_init_da8c8 : MethodName := ⟨RJx4a65c, "<init>", "()V"⟩
abbrev cJx4a65c_grow_92f84 : ByteArray := prog_42_method_6_code
def yJx4a65c_grow_92f84 : MethodName := ⟨RJx4a65c, "grow", "(I)[Ljava/lang/Object;"⟩
abbrev cJx4a65c_grow_d5877 : ByteArray := prog_42_method_7_code
def yJx4a65c_grow_d5877 : MethodName := ⟨RJx4a65c, "grow", "()[Ljava/lang/Object;"⟩
abbrev cJx4a65c_size_8abf5 : ByteArray := prog_42_method_8_code
def yJx4a65c_size_8abf5 : MethodName := ⟨RJx4a65c, "size", "()I"⟩
abbrev cJx4a65c_isEmpty_aae02 : ByteArray := prog_42_method_9_code
def yJx4a65c_isEmpty_aae02 : MethodName := ⟨RJx4a65c, "isEmpty", "()Z"⟩
abbrev cJx4a65c_elementData_915e3 : ByteArray := prog_42_method_18_code
def yJx4a65c_elementData_915e3 : MethodName := ⟨RJx4a65c, "elementData", "(I)Ljava/lang/Object;"⟩
abbrev cJx4a65c_get_915e3 : ByteArray := prog_42_method_20_code
def yJx4a65c_get_915e3 : MethodName := ⟨RJx4a65c, "get", "(I)Ljava/lang/Object;"⟩
abbrev cJx4a65c_add_72be8 : ByteArray := prog_42_method_24_code
def yJx4a65c_add_72be8 : MethodName := ⟨RJx4a65c, "add", "(Ljava/lang/Object;[Ljava/lang/Object;I)V"⟩
abbrev cJx4a65c_add_9ea2d : ByteArray := prog_42_method_25_code
def yJx4a65c_add_9ea2d : MethodName := ⟨RJx4a65c, "add", "(Ljava/lang/Object;)Z"⟩
abbrev cJx4a65c_remove_915e3 : ByteArray := prog_42_method_29_code
def yJx4a65c_remove_915e3 : MethodName := ⟨RJx4a65c, "remove", "(I)Ljava/lang/Object;"⟩
abbrev cJx4a65c_fastRemove_b59b0 : ByteArray := prog_42_method_39_code
def yJx4a65c_fastRemove_b59b0 : MethodName := ⟨RJx4a65c, "fastRemove", "([Ljava/lang/Object;I)V"⟩
abbrev cJx4a65c_clear_da8c8 : ByteArray := prog_42_method_40_code
def yJx4a65c_clear_da8c8 : MethodName := ⟨RJx4a65c, "clear", "()V"⟩
abbrev cJx4a65c_iterator_32c93 : ByteArray := prog_42_method_55_code
def yJx4a65c_iterator_32c93 : MethodName := ⟨RJx4a65c, "iterator", "()Ljava/util/Iterator;"⟩
def RJ7 : String := "java/util/Arrays"
def TJ7 : u_T := fun k => match k with
  | _ => ("", "", "", false)
def tyJ7 : Nat → FieldType := fun k => match k with
  | _ => .int
abbrev wsJ70 : List Cond := u_ws RJ7 TJ7 0
theorem nmJ7 : ∀ a, a < 0 → ∀ b, b < 0 → a ≠ b → (TJ7 a).2.1 ≠ (TJ7 b).2.1 := by decide +kernel
theorem tyJ7_ok : ∀ k, k < 0 → parseFieldDescriptor (TJ7 k).2.2.1 = some (tyJ7 k) := by decide +kernel
abbrev cJ7_copyOf_1904c : ByteArray := prog_44_method_119_code
def yJ7_copyOf_1904c : MethodName := ⟨RJ7, "copyOf", "([Ljava/lang/Object;I)[Ljava/lang/Object;"⟩
abbrev cJ7_copyOf_6403c : ByteArray := prog_44_method_120_code
def yJ7_copyOf_6403c : MethodName := ⟨RJ7, "copyOf", "([Ljava/lang/Object;ILjava/lang/Class;)[Ljava/lang/Object;"⟩
abbrev cJ7_copyOf_9075b : ByteArray := prog_44_method_121_code
def yJ7_copyOf_9075b : MethodName := ⟨RJ7, "copyOf", "([BI)[B"⟩
abbrev cJ7_checkLength_df160 : ByteArray := prog_44_method_131_code
def yJ7_checkLength_df160 : MethodName := ⟨RJ7, "checkLength", "(II)V"⟩
abbrev cJ7_copyOfRange_39247 : ByteArray := prog_44_method_132_code
def yJ7_copyOfRange_39247 : MethodName := ⟨RJ7, "copyOfRange", "([BII)[B"⟩
abbrev cJ7_copyOfRangeByte_39247 : ByteArray := prog_44_method_133_code
def yJ7_copyOfRangeByte_39247 : MethodName := ⟨RJ7, "copyOfRangeByte", "([BII)[B"⟩
def RJx5ef63 : String := "java/util/Collection"
def TJx5ef63 : u_T := fun k => match k with
  | _ => ("", "", "", false)
def tyJx5ef63 : Nat → FieldType := fun k => match k with
  | _ => .int
abbrev wsJx5ef630 : List Cond := u_ws RJx5ef63 TJx5ef63 0
theorem nmJx5ef63 : ∀ a, a < 0 → ∀ b, b < 0 → a ≠ b → (TJx5ef63 a).2.1 ≠ (TJx5ef63 b).2.1 := by decide +kernel
theorem tyJx5ef63_ok : ∀ k, k < 0 → parseFieldDescriptor (TJx5ef63 k).2.2.1 = some (tyJx5ef63 k) := by decide +kernel
def RJx4d0d8 : String := "java/util/Iterator"
def TJx4d0d8 : u_T := fun k => match k with
  | _ => ("", "", "", false)
def tyJx4d0d8 : Nat → FieldType := fun k => match k with
  | _ => .int
abbrev wsJx4d0d80 : List Cond := u_ws RJx4d0d8 TJx4d0d8 0
theorem nmJx4d0d8 : ∀ a, a < 0 → ∀ b, b < 0 → a ≠ b → (TJx4d0d8 a).2.1 ≠ (TJx4d0d8 b).2.1 := by decide +kernel
theorem tyJx4d0d8_ok : ∀ k, k < 0 → parseFieldDescriptor (TJx4d0d8 k).2.2.1 = some (tyJx4d0d8 k) := by decide +kernel
def RJxbd725 : String := "java/util/List"
def TJxbd725 : u_T := fun k => match k with
  | _ => ("", "", "", false)
def tyJxbd725 : Nat → FieldType := fun k => match k with
  | _ => .int
abbrev wsJxbd7250 : List Cond := u_ws RJxbd725 TJxbd725 0
theorem nmJxbd725 : ∀ a, a < 0 → ∀ b, b < 0 → a ≠ b → (TJxbd725 a).2.1 ≠ (TJxbd725 b).2.1 := by decide +kernel
theorem tyJxbd725_ok : ∀ k, k < 0 → parseFieldDescriptor (TJxbd725 k).2.2.1 = some (tyJxbd725 k) := by decide +kernel
def RJ15 : String := "java/util/Objects"
def TJ15 : u_T := fun k => match k with
  | _ => ("", "", "", false)
def tyJ15 : Nat → FieldType := fun k => match k with
  | _ => .int
abbrev wsJ150 : List Cond := u_ws RJ15 TJ15 0
theorem nmJ15 : ∀ a, a < 0 → ∀ b, b < 0 → a ≠ b → (TJ15 a).2.1 ≠ (TJ15 b).2.1 := by decide +kernel
theorem tyJ15_ok : ∀ k, k < 0 → parseFieldDescriptor (TJ15 k).2.2.1 = some (tyJ15 k) := by decide +kernel
abbrev cJ15_checkIndex_7cf53 : ByteArray := prog_48_method_17_code
def yJ15_checkIndex_7cf53 : MethodName := ⟨RJ15, "checkIndex", "(II)I"⟩
def RJxf0a74 : String := "java/util/RandomAccess"
def TJxf0a74 : u_T := fun k => match k with
  | _ => ("", "", "", false)
def tyJxf0a74 : Nat → FieldType := fun k => match k with
  | _ => .int
abbrev wsJxf0a740 : List Cond := u_ws RJxf0a74 TJxf0a74 0
theorem nmJxf0a74 : ∀ a, a < 0 → ∀ b, b < 0 → a ≠ b → (TJxf0a74 a).2.1 ≠ (TJxf0a74 b).2.1 := by decide +kernel
theorem tyJxf0a74_ok : ∀ k, k < 0 → parseFieldDescriptor (TJxf0a74 k).2.2.1 = some (tyJxf0a74 k) := by decide +kernel
def RJxa66e6 : String := "java/util/SequencedCollection"
def TJxa66e6 : u_T := fun k => match k with
  | _ => ("", "", "", false)
def tyJxa66e6 : Nat → FieldType := fun k => match k with
  | _ => .int
abbrev wsJxa66e60 : List Cond := u_ws RJxa66e6 TJxa66e6 0
theorem nmJxa66e6 : ∀ a, a < 0 → ∀ b, b < 0 → a ≠ b → (TJxa66e6 a).2.1 ≠ (TJxa66e6 b).2.1 := by decide +kernel
theorem tyJxa66e6_ok : ∀ k, k < 0 → parseFieldDescriptor (TJxa66e6 k).2.2.1 = some (tyJxa66e6 k) := by decide +kernel
def RJ8 : String := "jdk/internal/util/ArraysSupport"
def TJ8 : u_T := fun k => match k with
  | _ => ("", "", "", false)
def tyJ8 : Nat → FieldType := fun k => match k with
  | _ => .int
abbrev wsJ80 : List Cond := u_ws RJ8 TJ8 0
theorem nmJ8 : ∀ a, a < 0 → ∀ b, b < 0 → a ≠ b → (TJ8 a).2.1 ≠ (TJ8 b).2.1 := by decide +kernel
theorem tyJ8_ok : ∀ k, k < 0 → parseFieldDescriptor (TJ8 k).2.2.1 = some (tyJ8 k) := by decide +kernel
abbrev cJ8_newLength_cabcc : ByteArray := prog_51_method_27_code
def yJ8_newLength_cabcc : MethodName := ⟨RJ8, "newLength", "(III)I"⟩
abbrev cJ8_hugeLength_7cf53 : ByteArray := prog_51_method_28_code
def yJ8_hugeLength_7cf53 : MethodName := ⟨RJ8, "hugeLength", "(II)I"⟩
def RJ3 : String := "jdk/internal/util/Preconditions"
def TJ3 : u_T := fun k => match k with
  | _ => ("", "", "", false)
def tyJ3 : Nat → FieldType := fun k => match k with
  | _ => .int
abbrev wsJ30 : List Cond := u_ws RJ3 TJ3 0
theorem nmJ3 : ∀ a, a < 0 → ∀ b, b < 0 → a ≠ b → (TJ3 a).2.1 ≠ (TJ3 b).2.1 := by decide +kernel
theorem tyJ3_ok : ∀ k, k < 0 → parseFieldDescriptor (TJ3 k).2.2.1 = some (tyJ3 k) := by decide +kernel
abbrev cJ3_checkIndex_8e157 : ByteArray := prog_52_method_11_code
def yJ3_checkIndex_8e157 : MethodName := ⟨RJ3, "checkIndex", "(IILjava/util/function/BiFunction;)I"⟩
abbrev cJ3_checkFromToIndex_8c36e : ByteArray := prog_52_method_12_code
def yJ3_checkFromToIndex_8c36e : MethodName := ⟨RJ3, "checkFromToIndex", "(IIILjava/util/function/BiFunction;)I"⟩
abbrev cJ3_checkFromIndexSize_8c36e : ByteArray := prog_52_method_13_code
def yJ3_checkFromIndexSize_8c36e : MethodName := ⟨RJ3, "checkFromIndexSize", "(IIILjava/util/function/BiFunction;)I"⟩
def RL : String := "FactloomLaw"
abbrev cL_tell : ByteArray := method_2_code
def yL_tell : MethodName := ⟨RL, "tell", "(LFactloom;IILFactloomLaw$Out;)I"⟩
abbrev cL_unsay : ByteArray := method_3_code
def yL_unsay : MethodName := ⟨RL, "unsay", "(LFactloom;ILFactloomLaw$Out;)I"⟩
abbrev cL_commit : ByteArray := method_4_code
def yL_commit : MethodName := ⟨RL, "commit", "(LFactloom;LFactloomLaw$Out;)I"⟩
abbrev cL_join : ByteArray := method_5_code
def yL_join : MethodName := ⟨RL, "join", "(LFactloom;IILFactloomLaw$Out;)I"⟩
abbrev cL_single : ByteArray := method_6_code
def yL_single : MethodName := ⟨RL, "single", "(LFactloom;IZLFactloomLaw$Out;)I"⟩
abbrev cL_rule : ByteArray := method_7_code
def yL_rule : MethodName := ⟨RL, "rule", "(LFactloom;IIILFactloomLaw$Out;)I"⟩
abbrev cL_unrule : ByteArray := method_8_code
def yL_unrule : MethodName := ⟨RL, "unrule", "(LFactloom;LFactloomLaw$Out;)I"⟩
abbrev cL_pattern : ByteArray := method_9_code
def yL_pattern : MethodName := ⟨RL, "pattern", "(LFactloom;ILFactloomLaw$Out;)I"⟩
abbrev cL_not : ByteArray := method_10_code
def yL_not : MethodName := ⟨RL, "not", "(LFactloom;ILFactloomLaw$Out;)I"⟩
abbrev cL_ofFact : ByteArray := method_11_code
def yL_ofFact : MethodName := ⟨RL, "ofFact", "(LFactloom;IILFactloomLaw$Out;)I"⟩
abbrev cL_told : ByteArray := method_12_code
def yL_told : MethodName := ⟨RL, "told", "(LFactloom;IILFactloomLaw$Out;)I"⟩
abbrev cL_past : ByteArray := method_13_code
def yL_past : MethodName := ⟨RL, "past", "(LFactloom;ILFactloomLaw$Out;)I"⟩
abbrev cL_answer : ByteArray := method_14_code
def yL_answer : MethodName := ⟨RL, "answer", "(LFactloom;ILFactloomLaw$Out;)I"⟩
abbrev cL_size : ByteArray := method_15_code
def yL_size : MethodName := ⟨RL, "size", "(LFactloom;ILFactloomLaw$Out;)I"⟩
abbrev cL_chain : ByteArray := method_16_code
def yL_chain : MethodName := ⟨RL, "chain", "(LFactloom;IIILFactloomLaw$Out;)I"⟩
abbrev cL_why : ByteArray := method_17_code
def yL_why : MethodName := ⟨RL, "why", "(LFactloom;ILFactloomLaw$Out;)I"⟩
abbrev cL_store : ByteArray := method_18_code
def yL_store : MethodName := ⟨RL, "store", "(LFactloom;ILFactloomLaw$Out;)I"⟩
abbrev cL_lost : ByteArray := method_19_code
def yL_lost : MethodName := ⟨RL, "lost", "(LFactloom;ILFactloomLaw$Out;)I"⟩
abbrev cL_law : ByteArray := code
def yL_law : MethodName := ⟨RL, "law", "([I)Z"⟩
/-! ===== BEGIN a static call of a method with an exception table ===== -/
section VXS
variable {p : Program} {l : Launch} {e : Env} {R : Room} {s : State} {m : MethodId} {args : Array Value} {below : List Frame} {meth : Method} {c : Code} {T : State} {H : Heap} {locs : List Loc} {cells slots : Nat}
abbrev vx_CSW (R : Room) (s : State) (args : Array Value) (own : String) (index : Nat) (y : MethodName) (bytes : ByteArray) (maxL : Nat) (ret : Option FieldType) (hh : List (Nat × Nat × Nat × Nat)) (ws : List Cond) (rm : Room) (mc ms n : Nat) : Prop :=
  (rm.cells = mc ∧ rm.slots = ms ∧ rm.frames + 1 ≤ R.frames ∧ 8 + (maxL + 11) + rm.locals ≤ R.locals ∧ (∀ w ∈ ws, ∀ (a' : Array Value) (U : State), s.WarmedH U.vm → w.before a' U = true) ∧ Cond.codeWith y bytes maxL ret hh ∈ ws) ∧
  (Cond.codeWith y bytes maxL ret hh).before args s = true ∧ (Cond.initialized y.cls).before args s = true ∧ (y.cls ≠ "java/lang/invoke/MethodHandle" ∧ y.cls ≠ "java/lang/invoke/VarHandle") ∧
  (∀ sig, parseMethodDescriptor y.desc = some sig → n = sig.parameters.length) ∧ (Cond.methodLink own index y).before args s = true ∧ (Cond.static y).before args s = true
theorem vx_cwSW {own : String} {index maxL mc ms : Nat} {y : MethodName} {bytes : ByteArray} {ret : Option FieldType} {hh : List (Nat × Nat × Nat × Nat)} {Ts ws ws' : List Cond} {rm : Room} (n : Nat) (ht : ∀ w ∈ Ts, w.before args s = true) (hT : GoodIn Ts (va_wsS own index y ws)) (hw : ws = Cond.codeWith y bytes maxL ret hh :: ws') (hrc : rm.cells = mc) (hrs : rm.slots = ms)
    (hd : y.cls ≠ "java/lang/invoke/MethodHandle" ∧ y.cls ≠ "java/lang/invoke/VarHandle" ∧ (parseMethodDescriptor y.desc).map (fun d => d.parameters.length) = some n) (hR : rm.frames + 1 ≤ R.frames ∧ 8 + (maxL + 11) + rm.locals ≤ R.locals) :
    vx_CSW R s args own index y bytes maxL ret hh ws rm mc ms n := by
  have ok : ∀ w ∈ va_wsS own index y ws, w.before args s = true := fun w h => ht w (hT w h).1
  have hG : GoodIn Ts ws := fun w h => hT w (by unfold va_wsS; exact List.mem_append_right _ h)
  have hc : Cond.codeWith y bytes maxL ret hh ∈ ws := by rw [hw]; exact List.mem_cons_self
  refine ⟨⟨hrc, hrs, hR.1, hR.2, pay_in ht hG, hc⟩, ht _ (hG _ hc).1, ok _ (by simp [va_wsS]), ⟨hd.1, hd.2.1⟩, fun sig h => ?_, ok _ (by simp [va_wsS]), ok _ (by simp [va_wsS])⟩
  have h2 := hd.2.2
  rw [h] at h2
  exact (Option.some.inj h2).symm
theorem vx_callSW (X : Stand p l e R s m args below meth c T locs cells slots) (hexec : p.tables.exec = Jvm.exec) {own : String} {index : Nat} {y : MethodName} {bytes : ByteArray} {maxL : Nat} {ret : Option FieldType} {hh : List (Nat × Nat × Nat × Nat)}
    (hown : s.vm.findClass own = some m.cls) (hlink : (Cond.methodLink own index y).before args s = true) (hstat : (Cond.static y).before args s = true) (hinit : (Cond.initialized y.cls).before args s = true)
    (hcode : (Cond.codeWith y bytes maxL ret hh).before args s = true) (hy : y.cls ≠ "java/lang/invoke/MethodHandle" ∧ y.cls ≠ "java/lang/invoke/VarHandle")
    {W9 : Nat} {Pre : Pt → Array Value → Prop} {Post : Pt → Array Value → Option Value → Pt → Prop} (hK : Back l R p e below s args y 3 W9 Pre Post)
    {g : JFrame} (hg : g.method = m) (hsize : g.locals.size = c.maxLocals) {argsL rest : List Value} (hlen : ∀ sig, parseMethodDescriptor y.desc = some sig → argsL.length = sig.parameters.length)
    (hstack : g.stack = argsL.reverse ++ rest) (hW : 2 * g.monitorRoom + (rest.map fun v => v.category).sum ≤ W9) (hdg : decode c.code g.pc = .ok (.invokestatic index, 3))
    (hpre : ∀ vm₁, s.WarmedH vm₁ → Pre ⟨T.setVm vm₁, locs, cells, slots⟩ argsL.toArray) :
    ∃ (v : Option Value) (vm₁ : Vm) (B : Pt), s.WarmedH vm₁ ∧ Stand p l e R s m args below meth c B.U B.locs B.cells B.slots ∧ Post ⟨T.setVm vm₁, locs, cells, slots⟩ argsL.toArray v B ∧
      ∀ target, Steps p.tables e below (B.U.setTop { g with pc := g.pc + 3, stack := v.toList ++ rest }) target → Steps p.tables e below (T.setTop g) target := by
  obtain ⟨mk, methM, cM, hnamed, hmethM, -, -, -, -, -, -, hsigM⟩ := Cond.codeWith_spec hcode
  have hstatic : methM.isStatic = true := Cond.static_spec hnamed hmethM hstat
  obtain ⟨kP, hkP, -⟩ := className_of_methodNamed hnamed
  have hinitP : kP.init = .initialized := Cond.initialized_spec (findClass_of_methodNamed hnamed) hkP hinit
  obtain ⟨vm₁, X₁, hstep₁⟩ := X.invokestatic hexec hown hlink hnamed hmethM hstatic hkP hinitP hy (g := g) hg (argsL := argsL) (rest := rest) (hlen _ hsigM) hstack hdg
  obtain ⟨v, B, X', hpost, hsteps⟩ := hK m meth c ⟨T.setVm vm₁, locs, cells, slots⟩ { g with stack := rest } (.invokestatic index) mk argsL.toArray X₁ hg hsize hdg hW (X₁.named hnamed) (hpre vm₁ X₁.warmed)
  exact ⟨v, vm₁, B, X₁.warmed, X', hpost, fun target h => hstep₁ _ fun acts => by rw [doInvoke_state]; exact hsteps.trans h⟩
theorem vx_runSW {y : MethodName} {bytes cc : ByteArray} {maxL nL mc ms n index : Nat} {ret : Option FieldType} {hh : List (Nat × Nat × Nat × Nat)} {ws : List Cond} {rm : Room} {Pc : Array Value → State → Prop} {Qc : Array Value → State → Outcome → State → Prop} {free : Addr → Prop} {Ts : List Cond} {own : String} {As rest : List Value} {g : JFrame}
    (S : CallFix p m c cc nL s args Ts own) (hM : Met l y ws rm Pc Qc mc ms free) (cw : vx_CSW R s args own index y bytes maxL ret hh ws rm mc ms n) (hp : PreS s H Pc As)
    (hg : g.method = m) (hn : As.length = n) (hsize : g.locals.size = nL) (hstack : g.stack = As.reverse ++ rest) (hW : 2 * g.monitorRoom + (rest.map fun v => v.category).sum ≤ 8) (hdg : decode cc g.pc = .ok (.invokestatic index, 3)) (hf : cells + mc ≤ R.cells ∧ slots + ms ≤ R.slots) :
    va_Run p l e R s m args below meth c H locs cells slots mc ms g rest (Qc As.toArray) (free) := by
  obtain ⟨⟨hrc, hrs, hfr, hlo, hws, hcw⟩, hcode, hini, hy, hlen, hl, hstt⟩ := cw
  have hK : Back l R p e below s args y 3 8 (PreOf R mc ms Pc) (PostOf Qc mc ms free) := va_backW (hh := hh) (bytes := bytes) (maxL := maxL) (ret := ret) hM hp.1 hrc hrs hfr hlo hws hcw (fun a' U hW => word_at hW (Or.inl (by first | rfl | simp [Cond.onTables, Cond.keeps, Cond.steady])) hini)
  obtain ⟨hx, hb, hml, ho, -⟩ := S
  intro T hT X
  obtain ⟨v, vm₁, ⟨U', l2, c2, s2⟩, hW₁, X', ⟨g', mk, t, L, e1, e2, hq, h1, hL, h2, h3⟩, st⟩ := vx_callSW X hx (hh := hh) (bytes := bytes) (maxL := maxL) (ret := ret) ho hl hstt hini hcode hy hK hg (hsize.trans hml.symm) (argsL := As) (rest := rest) (fun sig h => hn.trans (hlen sig h)) hstack hW (by rw [hb]; exact hdg)
    (fun vm₁ hW₁ => ⟨hf.1, hf.2, hp.2 (T.setVm vm₁) hT hW₁⟩)
  dsimp only [Pt.U, Pt.locs, Pt.cells, Pt.slots] at X' e1 e2 h1 h2 h3 st
  subst h1; subst h2; subst h3
  exact ⟨v, (T.setVm vm₁).calling g' mk As.toArray, t, U', L, hT, X', hL, e1, e2, hq, st⟩
end VXS
abbrev vwCl : List vw_C := [(RJ0, TJ0, 4), (RJ4, TJ4, 4), (RJ6, TJ6, 1), (RJx35411, TJx35411, 4), (RJx4a65c, TJx4a65c, 3), (RX0, TX0, 3), (RX1, TX1, 2), (RX2, TX2, 3), (RX3, TX3, 6), (RX4, TX4, 2), (RX5, TX5, 3), (RX6, TX6, 9), (RX7, TX7, 6), (RX8, TX8, 4), (RX9, TX9, 1), (RX10, TX10, 16), (RX11, TX11, 2), (RX12, TX12, 4), (RX13, TX13, 12)]
end
section
/-! THE EVALUATOR: runs bytecode over a world that is a list of cells; an address is a place in that list. Its answers are tied to the machine in a later part.
It is written with recursors and with operations whose next places are numbers, for the kernel's sake. -/
/-- a cell: its kind (0 an int[], 1 a boolean[], 2 an Object[], k + 3 an object of the class k of vwCl), its length, what it holds -/
abbrev ev_Q : Type := Nat × Nat × List Value
abbrev ev_W : Type := List ev_Q
abbrev ev_R : Type := Option Value × ev_W × Nat
/-- an instruction: its place, group, place in the group, a number, an offset -/
abbrev ev_I : Type := Nat × Nat × Nat × Int
abbrev ev_K : Type := Nat × Nat × Nat × Nat
abbrev ev_T : Type := Int × Int × Int × List Int
/-- what goes on behind an instruction: at a place, with locals, stack, world, slots made -/
abbrev ev_G (α : Type) : Type := Nat → List Value → List Value → ev_W → Nat → Option α
abbrev ev_O (α : Type) : Type := ev_G α → List Value → List Value → ev_W → Nat → Option α
noncomputable def ev_at {α : Type} (l : List α) : Nat → Option α := List.rec (motive := fun _ => Nat → Option α) (fun _ => none) (fun a _ ih k => Nat.rec (some a) (fun j _ => ih j) k) l
noncomputable def ev_set {α : Type} (l : List α) : Nat → α → List α := List.rec (motive := fun _ => Nat → α → List α) (fun _ _ => []) (fun a t ih k v => Nat.rec (v :: t) (fun j _ => a :: ih j v) k) l
noncomputable def ev_len {α : Type} (l : List α) : Nat := List.rec (motive := fun _ => Nat) 0 (fun _ _ ih => Nat.succ ih) l
def ev_bits (x : Int32) : Nat := x.toBitVec.toNat
def ev_sg (x : Int32) : Nat := (ev_bits x + 2147483648) % 4294967296
noncomputable def ev_oc {α β : Type} (o : Option β) (f : β → Option α) : Option α := Option.rec none f o
noncomputable def ev_bc {α : Type} (b : Bool) (x y : Option α) : Option α := Bool.rec y x b
noncomputable def ev_lc {α β : Type} (l : List β) (f : β → List β → Option α) : Option α := List.rec none (fun a t _ => f a t) l
noncomputable def ev_ic {α : Type} (v : Value) (f : Int32 → Option α) : Option α := Value.rec f (fun _ => none) (fun _ => none) (fun _ => none) none (fun _ => none) (fun _ => none) v
noncomputable def ev_jc {α : Type} (v : Value) (f : Int64 → Option α) : Option α := Value.rec (fun _ => none) f (fun _ => none) (fun _ => none) none (fun _ => none) (fun _ => none) v
noncomputable def ev_rc {α : Type} (v : Value) (f : Nat → Option α) : Option α := Value.rec (fun _ => none) (fun _ => none) (fun _ => none) (fun _ => none) none f (fun _ => none) v
/-- a reference or null -/
noncomputable def ev_pc {α : Type} (v : Value) (y : Option α) : Option α := Value.rec (fun _ => none) (fun _ => none) (fun _ => none) (fun _ => none) y (fun _ => y) (fun _ => none) v
/-- one word wide: a whole number, a reference, null -/
noncomputable def ev_c1 {α : Type} (v : Value) (y : Option α) : Option α := Value.rec (fun _ => y) (fun _ => none) (fun _ => none) (fun _ => none) y (fun _ => y) (fun _ => none) v
/-- null 0, the place a a + 1 -/
noncomputable def ev_rn {α : Type} (v : Value) (f : Nat → Option α) : Option α := Value.rec (fun _ => none) (fun _ => none) (fun _ => none) (fun _ => none) (f 0) (fun a => f (Nat.succ a)) (fun _ => none) v
/-- the last k values of a stack, in their order, and the rest -/
noncomputable def ev_pop {α : Type} (k : Nat) : List Value → List Value → (List Value → List Value → Option α) → Option α := Nat.rec (motive := fun _ => List Value → List Value → (List Value → List Value → Option α) → Option α) (fun S acc f => f acc S) (fun _ ih S acc f => ev_lc S fun v S' => ih S' (v :: acc) f) k
noncomputable def ev_push (r : Option Value) (S : List Value) : List Value := Option.rec S (fun v => v :: S) r
noncomputable def ev_find (l : List (Nat × ev_K)) (i : Nat) : Option ev_K := List.rec (motive := fun _ => Option ev_K) none (fun q _ ih => Bool.rec ih (some q.2) (Nat.beq q.1 i)) l
section EV
variable {α : Type}
/-- no operation -/
noncomputable def ev_no : ev_O α := fun _ _ _ _ _ => none
noncomputable def ev_ild (p i : Nat) : ev_O α := fun k L S w n => ev_oc (ev_at L i) fun v => ev_ic v fun x => k p L (.int x :: S) w n
noncomputable def ev_ald (p i : Nat) : ev_O α := fun k L S w n => ev_oc (ev_at L i) fun v => ev_pc v (k p L (v :: S) w n)
noncomputable def ev_ist (p i : Nat) : ev_O α := fun k L S w n => ev_lc S fun v S' => ev_ic v fun x => k p (ev_set L i (.int x)) S' w n
noncomputable def ev_ast (p i : Nat) : ev_O α := fun k L S w n => ev_lc S fun v S' => ev_pc v (k p (ev_set L i v) S' w n)
noncomputable def ev_inc (p i : Nat) (c : Int32) : ev_O α := fun k L S w n => ev_oc (ev_at L i) fun v => ev_ic v fun x => k p (ev_set L i (.int (x + c))) S w n
noncomputable def ev_psh (p : Nat) (v : Value) : ev_O α := fun k L S w n => k p L (v :: S) w n
noncomputable def ev_dup (p : Nat) : ev_O α := fun k L S w n => ev_lc S fun v S' => ev_c1 v (k p L (v :: v :: S') w n)
noncomputable def ev_dx1 (p : Nat) : ev_O α := fun k L S w n => ev_lc S fun va S1 => ev_lc S1 fun vb S' => ev_c1 va (ev_c1 vb (k p L (va :: vb :: va :: S') w n))
noncomputable def ev_drop (p : Nat) : ev_O α := fun k L S w n => ev_lc S fun v S' => ev_c1 v (k p L S' w n)
noncomputable def ev_bin (p : Nat) (f : Int32 → Int32 → Int32) : ev_O α := fun k L S w n => ev_lc S fun v S1 => ev_lc S1 fun u S' => ev_ic v fun y => ev_ic u fun x => k p L (.int (f x y) :: S') w n
/-- as ev_bin, the second number not 0 -/
noncomputable def ev_div (p : Nat) (f : Int32 → Int32 → Int32) : ev_O α := fun k L S w n => ev_lc S fun v S1 => ev_lc S1 fun u S' => ev_ic v fun y => ev_ic u fun x => ev_bc (Nat.beq (ev_bits y) 0) none (k p L (.int (f x y) :: S') w n)
/-- Math.max -/
noncomputable def ev_mx (p : Nat) : ev_O α := fun k L S w n => ev_lc S fun v S1 => ev_lc S1 fun u S' => ev_ic v fun y => ev_ic u fun x => ev_bc (Nat.ble (ev_len S') 4) (k p L (.int (cond (Nat.blt (ev_sg x) (ev_sg y)) y x) :: S') w n) none
noncomputable def ev_cmp (p t : Nat) (f : Int32 → Int32 → Bool) : ev_O α := fun k L S w n => ev_lc S fun v S1 => ev_lc S1 fun u S' => ev_ic v fun y => ev_ic u fun x => ev_bc (f x y) (k t L S' w n) (k p L S' w n)
noncomputable def ev_cm0 (p t : Nat) (f : Int32 → Bool) : ev_O α := fun k L S w n => ev_lc S fun v S' => ev_ic v fun x => ev_bc (f x) (k t L S' w n) (k p L S' w n)
/-- null, or a place of the world -/
noncomputable def ev_pl (w : ev_W) (a : Nat) (y : Option α) : Option α := Nat.rec y (fun j _ => ev_oc (ev_at w j) fun _ => y) a
noncomputable def ev_acm (pe pn : Nat) : ev_O α := fun k L S w n => ev_lc S fun v S1 => ev_lc S1 fun u S' => ev_rn v fun a => ev_rn u fun b => ev_bc (Nat.beq b a) (k pe L S' w n) (ev_pl w a (ev_pl w b (k pn L S' w n)))
noncomputable def ev_jmp (t : Nat) : ev_O α := fun k L S w n => k t L S w n
noncomputable def ev_aln (p : Nat) : ev_O α := fun k L S w n => ev_lc S fun v S' => ev_rc v fun a => ev_oc (ev_at w a) fun c => ev_bc (Nat.blt c.1 3) (k p L (.int (Int32.ofNat c.2.1) :: S') w n) none
noncomputable def ev_get (p ci kf : Nat) : ev_O α := fun k L S w n => ev_lc S fun v S' => ev_rc v fun a => ev_oc (ev_at w a) fun c => ev_bc (Nat.beq c.1 (ci + 3)) (ev_oc (ev_at c.2.2 kf) fun u => k p L (u :: S') w n) none
noncomputable def ev_ldi (p t : Nat) : ev_O α := fun k L S w n => ev_lc S fun v S1 => ev_lc S1 fun u S' => ev_ic v fun i => ev_rc u fun a => ev_oc (ev_at w a) fun c => ev_bc (Nat.beq c.1 t && Nat.blt (ev_bits i) c.2.1) (ev_oc (ev_at c.2.2 (ev_bits i)) fun z => ev_ic z fun x => k p L (.int x :: S') w n) none
noncomputable def ev_ldq (p : Nat) : ev_O α := fun k L S w n => ev_lc S fun v S1 => ev_lc S1 fun u S' => ev_ic v fun i => ev_rc u fun a => ev_oc (ev_at w a) fun c => ev_bc (Nat.beq c.1 2 && Nat.blt (ev_bits i) c.2.1) (ev_oc (ev_at c.2.2 (ev_bits i)) fun z => ev_pc z (k p L (z :: S') w n)) none
noncomputable def ev_sti (p t : Nat) (g : Int32 → Int32) : ev_O α := fun k L S w n => ev_lc S fun z S0 => ev_lc S0 fun v S1 => ev_lc S1 fun u S' => ev_ic z fun x => ev_ic v fun i => ev_rc u fun a => ev_oc (ev_at w a) fun c => ev_bc (Nat.beq c.1 t && Nat.blt (ev_bits i) c.2.1) (k p L S' (ev_set w a (c.1, c.2.1, ev_set c.2.2 (ev_bits i) (.int (g x)))) n) none
/-- an int[], an object of the kind rt, or null, into an Object[] -/
noncomputable def ev_stq (p rt : Nat) : ev_O α := fun k L S w n => ev_lc S fun z S0 => ev_lc S0 fun v S1 => ev_lc S1 fun u S' => ev_ic v fun i => ev_rc u fun a => ev_oc (ev_at w a) fun c => ev_bc (Nat.beq c.1 2 && Nat.blt (ev_bits i) c.2.1) (ev_rn z fun b => Nat.rec (k p L S' (ev_set w a (c.1, c.2.1, ev_set c.2.2 (ev_bits i) z)) n) (fun b _ => ev_oc (ev_at w b) fun d => ev_bc (Nat.beq d.1 0 || Nat.beq d.1 rt) (k p L S' (ev_set w a (c.1, c.2.1, ev_set c.2.2 (ev_bits i) z)) n) none) b) none
/-- what a field may take: 0 an int, 1 a reference or null, 2 a boolean, 3 a long -/
noncomputable def ev_fit (q : Nat) (v : Value) (y : Option α) : Option α := Nat.rec (ev_ic v fun _ => y) (fun q _ => Nat.rec (ev_pc v y) (fun q _ => Nat.rec (ev_ic v fun x => ev_bc (Nat.blt (ev_bits x) 2) y none) (fun _ _ => ev_jc v fun _ => y) q) q) q
noncomputable def ev_ptf (p ci kf q : Nat) : ev_O α := fun k L S w n => ev_lc S fun v S1 => ev_lc S1 fun u S' => ev_rc u fun a => ev_oc (ev_at w a) fun c => ev_bc (Nat.beq c.1 (ci + 3) && Nat.blt kf c.2.1) (ev_fit q v (k p L S' (ev_set w a (c.1, c.2.1, ev_set c.2.2 kf v)) n)) none
noncomputable def ev_nwa (p t : Nat) (v0 : Value) : ev_O α := fun k L S w n => ev_lc S fun v S' => ev_ic v fun i => ev_bc (Nat.blt (ev_bits i) 100000) (k p L (.ref (ev_len w) :: S') (w ++ [(t, ev_bits i, List.replicate (ev_bits i) v0)]) (n + ev_bits i)) none
noncomputable def ev_new (p ci N : Nat) (dv : List Value) : ev_O α := fun k L S w n => k p L (.ref (ev_len w) :: S) (w ++ [(ci + 3, N, dv)]) (n + N)
noncomputable def ev_gst (p a : Nat) : ev_O α := fun k L S w n => k p L (.ref a :: S) w n
noncomputable def ev_cst (p t : Nat) : ev_O α := fun k L S w n => ev_lc S fun v S' => ev_rc v fun a => ev_oc (ev_at w a) fun c => ev_bc (Nat.beq c.1 t) (k p L (v :: S') w n) none
noncomputable def ev_i2l (p : Nat) : ev_O α := fun k L S w n => ev_lc S fun v S' => ev_ic v fun x => k p L (.long x.toInt64 :: S') w n
noncomputable def ev_lcm (p : Nat) : ev_O α := fun k L S w n => ev_lc S fun v S1 => ev_lc S1 fun u S' => ev_jc v fun y => ev_jc u fun x => k p L (.int (lg_cmp x y) :: S') w n
/-- a switch from 0 on, within -/
noncomputable def ev_tsw (ts : List Nat) : ev_O α := fun k L S w n => ev_lc S fun v S' => ev_ic v fun x => ev_bc (Nat.blt (ev_bits x) 100) (ev_oc (ev_at ts (ev_bits x)) fun t => k t L S' w n) none
noncomputable def ev_obj (p : Nat) : ev_O α := fun k L S w n => ev_lc S fun v S' => ev_rc v fun _ => ev_bc (Nat.ble (ev_len S') 4) (k p L S' w n) none
variable (cf : Nat → List Value → ev_W → Option ev_R)
noncomputable def ev_inv (p cal na : Nat) : ev_O α := fun k L S w n => ev_pop na S [] fun as S' => ev_bc (Nat.ble (ev_len S') 4) (ev_oc (cf cal as w) fun q => k p L (ev_push q.1 S') q.2.1 (n + q.2.2)) none
/-- as ev_inv, the deepest argument a cell -/
noncomputable def ev_ini (p cal na : Nat) : ev_O α := fun k L S w n => ev_pop na S [] fun as S' => ev_lc as fun v _ => ev_rc v fun _ => ev_bc (Nat.ble (ev_len S') 4) (ev_oc (cf cal as w) fun q => k p L (ev_push q.1 S') q.2.1 (n + q.2.2)) none
/-- a call of a receiver of the class ci -/
noncomputable def ev_inr (p cal na ci : Nat) : ev_O α := fun k L S w n => ev_pop na S [] fun as S' => ev_lc as fun v _ => ev_rc v fun a => ev_oc (ev_at w a) fun c => ev_bc (Nat.beq c.1 (ci + 3) && Nat.ble (ev_len S') 4) (ev_oc (cf cal as w) fun q => k p L (ev_push q.1 S') q.2.1 (n + q.2.2)) none
variable (fin : Option Value → ev_W → Nat → Option α)
/-- the returns: of an int; of a boolean; of a reference or null; of nothing -/
noncomputable def ev_rti : ev_O α := fun _ _ S w n => ev_lc S fun v S' => ev_ic v fun x => List.rec (fin (some (.int x)) w n) (fun _ _ _ => none) S'
noncomputable def ev_rtz : ev_O α := fun _ _ S w n => ev_lc S fun v S' => ev_ic v fun x => ev_bc (Nat.blt (ev_bits x) 2) (List.rec (fin (some (.int x)) w n) (fun _ _ _ => none) S') none
noncomputable def ev_rta : ev_O α := fun _ _ S w n => ev_lc S fun v S' => ev_pc v (List.rec (fin (some v) w n) (fun _ _ _ => none) S')
noncomputable def ev_rtv : ev_O α := fun _ _ S w n => List.rec (fin none w n) (fun _ _ _ => none) S
end EV
/-- f steps at most -/
noncomputable def ev_run {α : Type} (tb : List (List (ev_O α))) (stop : ev_G α) (f : Nat) : ev_G α :=
  Nat.rec (motive := fun _ => ev_G α) stop (fun _ ih pc L S w n => ev_oc (ev_oc (ev_at tb (pc / 16)) fun c => ev_at c (pc % 16)) fun o => o ih L S w n) f
/-- every word is one wide -/
noncomputable def ev_cat {α : Type} (vs : List Value) (y : Option α) : Option α := List.rec y (fun v _ ih => ev_c1 v ih) vs
/-- a method's row of the table: how many arguments, the other locals, its operations -/
abbrev ev_Y : Type := Nat × List Value × List (List (ev_O ev_R))
noncomputable def ev_go (M : ev_Y) (vs : List Value) (w : ev_W) : Option ev_R := ev_bc (Nat.beq (ev_len vs) M.1) (ev_cat vs (ev_run M.2.2 (fun _ _ _ _ _ => none) 100000 0 (vs ++ M.2.1) [] w 0)) none
end
section
noncomputable def ev_o0 {α : Type} (cf : Nat → List Value → ev_W → Option ev_R) (fin : Option Value → ev_W → Nat → Option α) : List (List (ev_O α)) := [[ev_ild 1 0, ev_ild 2 1, ev_cmp 5 9 (fun x y => Nat.blt (ev_sg x) (ev_sg y)), ev_no, ev_no, ev_ild 6 0, ev_jmp 10, ev_no, ev_no, ev_ild 10 1, ev_rti fin]]
noncomputable def ev_o1 {α : Type} (cf : Nat → List Value → ev_W → Option ev_R) (fin : Option Value → ev_W → Nat → Option α) : List (List (ev_O α)) := [[ev_ald 1 0, ev_get 4 3 3, ev_no, ev_no, ev_get 7 4 0, ev_no, ev_no, ev_ald 8 0, ev_get 11 3 2, ev_no, ev_no, ev_cmp 14 22 (fun x y => Nat.beq (ev_bits x) (ev_bits y)), ev_no, ev_no, ev_no, ev_no],
  [ev_no, ev_dup 18, ev_no, ev_no, ev_no, ev_no, ev_rtv fin]]
noncomputable def ev_o2 {α : Type} (cf : Nat → List Value → ev_W → Option ev_R) (fin : Option Value → ev_W → Nat → Option α) : List (List (ev_O α)) := [[ev_ald 1 0, ev_get 4 3 0, ev_no, ev_no, ev_ald 5 0, ev_get 8 3 3, ev_no, ev_no, ev_get 11 4 2, ev_no, ev_no, ev_cmp 14 18 (fun x y => Nat.beq (ev_bits x) (ev_bits y)), ev_no, ev_no, ev_psh 15 (.int (Int32.ofInt 1)), ev_jmp 19],
  [ev_no, ev_no, ev_psh 19 (.int (Int32.ofInt 0)), ev_rtz fin]]
noncomputable def ev_o3 {α : Type} (cf : Nat → List Value → ev_W → Option ev_R) (fin : Option Value → ev_W → Nat → Option α) : List (List (ev_O α)) := [[ev_ald 1 0, ev_ald 2 1, ev_ptf 5 3 3 1, ev_no, ev_no, ev_ald 6 0, ev_obj 9, ev_no, ev_no, ev_ald 10 0, ev_psh 11 (.int (Int32.ofInt (-1))), ev_ptf 14 3 1 0, ev_no, ev_no, ev_ald 15 0, ev_ald 16 0],
  [ev_get 19 3 3, ev_no, ev_no, ev_get 22 4 0, ev_no, ev_no, ev_ptf 25 3 2 0, ev_no, ev_no, ev_rtv fin]]
noncomputable def ev_o4 {α : Type} (cf : Nat → List Value → ev_W → Option ev_R) (fin : Option Value → ev_W → Nat → Option α) : List (List (ev_O α)) := [[ev_ald 1 0, ev_inr cf 4 1 1 3, ev_no, ev_no, ev_ald 5 0, ev_get 8 3 0, ev_no, ev_no, ev_ist 9 1, ev_ild 10 1, ev_ald 11 0, ev_get 14 3 3, ev_no, ev_no, ev_get 17 4 2, ev_no],
  [ev_no, ev_cmp 20 28 (fun x y => Nat.blt (ev_sg x) (ev_sg y)), ev_no, ev_no, ev_no, ev_no, ev_no, ev_dup 24, ev_no, ev_no, ev_no, ev_no, ev_ald 29 0, ev_get 32 3 3, ev_no, ev_no],
  [ev_get 35 4 1, ev_no, ev_no, ev_ast 36 2, ev_ild 37 1, ev_ald 38 2, ev_aln 39, ev_cmp 42 50 (fun x y => Nat.blt (ev_sg x) (ev_sg y)), ev_no, ev_no, ev_no, ev_no, ev_no, ev_dup 46, ev_no, ev_no],
  [ev_no, ev_no, ev_ald 51 0, ev_ild 52 1, ev_psh 53 (.int (Int32.ofInt 1)), ev_bin 54 (fun x y => x + y), ev_ptf 57 3 0 0, ev_no, ev_no, ev_ald 58 2, ev_ald 59 0, ev_ild 60 1, ev_dx1 61, ev_ptf 64 3 1 0, ev_no, ev_no],
  [ev_ldq 65, ev_rta fin]]
noncomputable def ev_o5 {α : Type} (cf : Nat → List Value → ev_W → Option ev_R) (fin : Option Value → ev_W → Nat → Option α) : List (List (ev_O α)) := [[ev_ild 1 3, ev_ald 2 2, ev_aln 3, ev_cmp 6 11 (fun x y => !Nat.beq (ev_bits x) (ev_bits y)), ev_no, ev_no, ev_ald 7 0, ev_inr cf 10 9 1 4, ev_no, ev_no, ev_ast 11 2, ev_ald 12 2, ev_ild 13 3, ev_ald 14 1, ev_stq 15 20, ev_ald 16 0],
  [ev_ild 17 3, ev_psh 18 (.int (Int32.ofInt 1)), ev_bin 19 (fun x y => x + y), ev_ptf 22 4 2 0, ev_no, ev_no, ev_rtv fin]]
noncomputable def ev_o6 {α : Type} (cf : Nat → List Value → ev_W → Option ev_R) (fin : Option Value → ev_W → Nat → Option α) : List (List (ev_O α)) := [[ev_ald 1 0, ev_dup 2, ev_get 5 4 0, ev_no, ev_no, ev_psh 6 (.int (Int32.ofInt 1)), ev_bin 7 (fun x y => x + y), ev_ptf 10 4 0 0, ev_no, ev_no, ev_ald 11 0, ev_ald 12 1, ev_ald 13 0, ev_get 16 4 1, ev_no, ev_no],
  [ev_ald 17 0, ev_get 20 4 2, ev_no, ev_no, ev_inr cf 23 5 4 4, ev_no, ev_no, ev_psh 24 (.int (Int32.ofInt 1)), ev_rtz fin]]
noncomputable def ev_o7 {α : Type} (cf : Nat → List Value → ev_W → Option ev_R) (fin : Option Value → ev_W → Nat → Option α) : List (List (ev_O α)) := [[ev_ald 1 0, ev_dup 2, ev_get 5 4 0, ev_no, ev_no, ev_psh 6 (.int (Int32.ofInt 1)), ev_bin 7 (fun x y => x + y), ev_ptf 10 4 0 0, ev_no, ev_no, ev_ald 11 0, ev_get 14 4 1, ev_no, ev_no, ev_ast 15 1, ev_ald 16 0],
  [ev_get 19 4 2, ev_no, ev_no, ev_ist 20 2, ev_ald 21 0, ev_psh 22 (.int (Int32.ofInt 0)), ev_dx1 23, ev_ptf 26 4 2 0, ev_no, ev_no, ev_ist 27 3, ev_ild 28 3, ev_ild 29 2, ev_cmp 32 42 (fun x y => Nat.ble (ev_sg y) (ev_sg x)), ev_no, ev_no],
  [ev_ald 33 1, ev_ild 34 3, ev_psh 35 .null, ev_stq 36 20, ev_inc 39 3 (Int32.ofInt 1), ev_no, ev_no, ev_jmp 27, ev_no, ev_no, ev_rtv fin]]
noncomputable def ev_o8 {α : Type} (cf : Nat → List Value → ev_W → Option ev_R) (fin : Option Value → ev_W → Nat → Option α) : List (List (ev_O α)) := [[ev_ald 1 0, ev_get 4 4 1, ev_no, ev_no, ev_aln 5, ev_ist 6 2, ev_ild 7 2, ev_cm0 10 20 (fun x => Nat.blt (ev_sg 0) (ev_sg x)), ev_no, ev_no, ev_ald 11 0, ev_get 14 4 1, ev_no, ev_no, ev_gst 17 1, ev_no],
  [ev_no, ev_acm 45 20, ev_no, ev_no, ev_ild 21 2, ev_ild 22 1, ev_ild 23 2, ev_bin 24 (fun x y => x - y), ev_ild 25 2, ev_psh 26 (.int (Int32.ofInt 1)), ev_bin 27 (fun x y => x >>> (y &&& 31)), ev_no, ev_no, ev_no, ev_ist 31 3, ev_ald 32 0],
  [ev_ald 33 0, ev_get 36 4 1, ev_no, ev_no, ev_ild 37 3, ev_no, ev_no, ev_no, ev_dx1 41, ev_ptf 44 4 1 1, ev_no, ev_no, ev_rta fin, ev_ald 46 0, ev_psh 48 (.int (Int8.ofInt 10).toInt32), ev_no],
  [ev_ild 49 1, ev_mx 52, ev_no, ev_no, ev_nwa 55 2 .null, ev_no, ev_no, ev_dx1 56, ev_ptf 59 4 1 1, ev_no, ev_no, ev_rta fin]]
noncomputable def ev_o9 {α : Type} (cf : Nat → List Value → ev_W → Option ev_R) (fin : Option Value → ev_W → Nat → Option α) : List (List (ev_O α)) := [[ev_ald 1 0, ev_ald 2 0, ev_get 5 4 2, ev_no, ev_no, ev_psh 6 (.int (Int32.ofInt 1)), ev_bin 7 (fun x y => x + y), ev_inr cf 10 8 2 4, ev_no, ev_no, ev_rta fin]]
noncomputable def ev_o10 {α : Type} (cf : Nat → List Value → ev_W → Option ev_R) (fin : Option Value → ev_W → Nat → Option α) : List (List (ev_O α)) := [[ev_ald 1 0, ev_ini cf 4 14 1, ev_no, ev_no, ev_ald 5 0, ev_gst 8 1, ev_no, ev_no, ev_ptf 11 4 1 1, ev_no, ev_no, ev_rtv fin]]
noncomputable def ev_o11 {α : Type} (cf : Nat → List Value → ev_W → Option ev_R) (fin : Option Value → ev_W → Nat → Option α) : List (List (ev_O α)) := [[ev_new 3 3 4 [.int 0, .int 0, .int 0, .null], ev_no, ev_no, ev_dup 4, ev_ald 5 0, ev_ini cf 8 3 2, ev_no, ev_no, ev_rta fin]]
noncomputable def ev_o12 {α : Type} (cf : Nat → List Value → ev_W → Option ev_R) (fin : Option Value → ev_W → Nat → Option α) : List (List (ev_O α)) := [[ev_ald 1 0, ev_get 4 4 2, ev_no, ev_no, ev_rti fin]]
noncomputable def ev_o13 {α : Type} (cf : Nat → List Value → ev_W → Option ev_R) (fin : Option Value → ev_W → Nat → Option α) : List (List (ev_O α)) := [[ev_ald 1 0, ev_obj 4, ev_no, ev_no, ev_rtv fin]]
noncomputable def ev_o14 {α : Type} (cf : Nat → List Value → ev_W → Option ev_R) (fin : Option Value → ev_W → Nat → Option α) : List (List (ev_O α)) := [[ev_ald 1 0, ev_ini cf 4 13 1, ev_no, ev_no, ev_ald 5 0, ev_psh 6 (.int (Int32.ofInt 0)), ev_ptf 9 4 0 0, ev_no, ev_no, ev_rtv fin]]
noncomputable def ev_o15 {α : Type} (cf : Nat → List Value → ev_W → Option ev_R) (fin : Option Value → ev_W → Nat → Option α) : List (List (ev_O α)) := [[ev_ald 1 1, ev_ald 2 0, ev_inr cf 5 26 1 15, ev_no, ev_no, ev_i2l 6, ev_ptf 9 16 0 3, ev_no, ev_no, ev_jmp 15, ev_no, ev_no, ev_ast 13 2, ev_psh 14 (.int (Int32.ofInt 1)), ev_rti fin, ev_psh 16 (.int (Int32.ofInt 0))],
  [ev_rti fin]]
noncomputable def ev_o16 {α : Type} (cf : Nat → List Value → ev_W → Option ev_R) (fin : Option Value → ev_W → Nat → Option α) : List (List (ev_O α)) := [[ev_new 3 15 16 [.null, .null, .null, .null, .null, .null, .null, .null, .null, .null, .null, .null, .int 0, .int 0, .int 0, .int 0], ev_no, ev_no, ev_dup 4, ev_ini cf 7 29 1, ev_no, ev_no, ev_ast 8 1, ev_new 11 18 12 [.int 0, .null, .int 0, .null, .null, .null, .null, .int 0, .int 0, .null, .null, .long 0], ev_no, ev_no, ev_dup 12, ev_ini cf 15 45 1, ev_no, ev_no, ev_ast 16 2],
  [ev_new 19 16 2 [.long 0, .null], ev_no, ev_no, ev_dup 20, ev_ini cf 23 36 1, ev_no, ev_no, ev_ast 24 3, ev_psh 25 (.int (Int32.ofInt 0)), ev_ist 27 4, ev_no, ev_ild 29 4, ev_no, ev_ald 30 0, ev_aln 31, ev_psh 32 (.int (Int32.ofInt 4))],
  [ev_bin 33 (fun x y => x - y), ev_cmp 36 903 (fun x y => Nat.blt (ev_sg y) (ev_sg x)), ev_no, ev_no, ev_ald 37 0, ev_ild 39 4, ev_no, ev_ldi 40 0, ev_psh 42 (.int (Int8.ofInt 31).toInt32), ev_no, ev_bin 43 (fun x y => x &&& y), ev_tsw [160, 229, 257, 270, 286, 326, 339, 395, 447, 463, 491, 519, 532, 572, 612, 640, 653, 681, 709, 722, 774, 802, 830, 843, 871, 884], ev_no, ev_no, ev_no, ev_no],
  [ev_no, ev_no, ev_no, ev_no, ev_no, ev_no, ev_no, ev_no, ev_no, ev_no, ev_no, ev_no, ev_no, ev_no, ev_no, ev_no],
  [ev_no, ev_no, ev_no, ev_no, ev_no, ev_no, ev_no, ev_no, ev_no, ev_no, ev_no, ev_no, ev_no, ev_no, ev_no, ev_no],
  [ev_no, ev_no, ev_no, ev_no, ev_no, ev_no, ev_no, ev_no, ev_no, ev_no, ev_no, ev_no, ev_no, ev_no, ev_no, ev_no],
  [ev_no, ev_no, ev_no, ev_no, ev_no, ev_no, ev_no, ev_no, ev_no, ev_no, ev_no, ev_no, ev_no, ev_no, ev_no, ev_no],
  [ev_no, ev_no, ev_no, ev_no, ev_no, ev_no, ev_no, ev_no, ev_no, ev_no, ev_no, ev_no, ev_no, ev_no, ev_no, ev_no],
  [ev_no, ev_no, ev_no, ev_no, ev_no, ev_no, ev_no, ev_no, ev_no, ev_no, ev_no, ev_no, ev_no, ev_no, ev_no, ev_no],
  [ev_no, ev_no, ev_no, ev_no, ev_no, ev_no, ev_no, ev_no, ev_no, ev_no, ev_no, ev_no, ev_no, ev_no, ev_no, ev_no],
  [ev_ald 161 1, ev_ald 162 0, ev_ild 164 4, ev_no, ev_psh 165 (.int (Int32.ofInt 1)), ev_bin 166 (fun x y => x + y), ev_ldi 167 0, ev_ald 168 0, ev_ild 170 4, ev_no, ev_psh 171 (.int (Int32.ofInt 2)), ev_bin 172 (fun x y => x + y), ev_ldi 173 0, ev_ald 174 3, ev_inv cf 177 17 4, ev_no],
  [ev_no, ev_ist 179 5, ev_no, ev_ald 180 2, ev_ald 181 0, ev_ild 183 4, ev_no, ev_psh 184 (.int (Int32.ofInt 1)), ev_bin 185 (fun x y => x + y), ev_ldi 186 0, ev_ald 187 0, ev_ild 189 4, ev_no, ev_psh 190 (.int (Int32.ofInt 2)), ev_bin 191 (fun x y => x + y), ev_ldi 192 0],
  [ev_inr cf 195 51 3 18, ev_no, ev_no, ev_ist 197 6, ev_no, ev_ald 198 2, ev_inr cf 201 52 1 18, ev_no, ev_no, ev_ild 203 5, ev_no, ev_cmp 206 208 (fun x y => Nat.beq (ev_bits x) (ev_bits y)), ev_no, ev_no, ev_psh 207 (.int (Int32.ofInt 0)), ev_rtz fin],
  [ev_ild 210 5, ev_no, ev_cm0 213 226 (fun x => !Nat.beq (ev_bits x) (ev_bits 0)), ev_no, ev_no, ev_ald 214 3, ev_get 217 16 0, ev_no, ev_no, ev_ild 219 6, ev_no, ev_i2l 220, ev_lcm 221, ev_cm0 224 226 (fun x => Nat.beq (ev_bits x) (ev_bits 0)), ev_no, ev_no],
  [ev_psh 225 (.int (Int32.ofInt 0)), ev_rtz fin, ev_jmp 897, ev_no, ev_no, ev_ald 230 1, ev_ald 231 0, ev_ild 233 4, ev_no, ev_psh 234 (.int (Int32.ofInt 1)), ev_bin 235 (fun x y => x + y), ev_ldi 236 0, ev_ald 237 3, ev_inv cf 240 18 3, ev_no, ev_no],
  [ev_ist 242 5, ev_no, ev_ald 243 2, ev_ald 244 0, ev_ild 246 4, ev_no, ev_psh 247 (.int (Int32.ofInt 1)), ev_bin 248 (fun x y => x + y), ev_ldi 249 0, ev_inr cf 252 54 2 18, ev_no, ev_no, ev_ist 254 6, ev_no, ev_jmp 897, ev_no],
  [ev_no, ev_ald 258 1, ev_no, ev_no, ev_no, ev_drop 262, ev_ald 263 2, ev_no, ev_no, ev_no, ev_drop 267, ev_jmp 897, ev_no, ev_no, ev_ald 271 1, ev_ald 272 3],
  [ev_inv cf 275 15 2, ev_no, ev_no, ev_ist 277 5, ev_no, ev_ald 278 2, ev_inr cf 281 41 1 18, ev_no, ev_no, ev_ist 283 6, ev_no, ev_jmp 897, ev_no, ev_no, ev_ald 287 1, ev_ald 288 0],
  [ev_ild 290 4, ev_no, ev_psh 291 (.int (Int32.ofInt 1)), ev_bin 292 (fun x y => x + y), ev_ldi 293 0, ev_ald 294 0, ev_ild 296 4, ev_no, ev_psh 297 (.int (Int32.ofInt 2)), ev_bin 298 (fun x y => x + y), ev_ldi 299 0, ev_ald 300 3, ev_no, ev_no, ev_no, ev_ist 305 5],
  [ev_no, ev_ald 306 2, ev_ald 307 0, ev_ild 309 4, ev_no, ev_psh 310 (.int (Int32.ofInt 1)), ev_bin 311 (fun x y => x + y), ev_ldi 312 0, ev_ald 313 0, ev_ild 315 4, ev_no, ev_psh 316 (.int (Int32.ofInt 2)), ev_bin 317 (fun x y => x + y), ev_ldi 318 0, ev_no, ev_no],
  [ev_no, ev_ist 323 6, ev_no, ev_jmp 897, ev_no, ev_no, ev_ald 327 1, ev_no, ev_no, ev_no, ev_drop 331, ev_ald 332 2, ev_no, ev_no, ev_no, ev_drop 336],
  [ev_jmp 897, ev_no, ev_no, ev_ald 340 1, ev_ald 341 0, ev_ild 343 4, ev_no, ev_psh 344 (.int (Int32.ofInt 1)), ev_bin 345 (fun x y => x + y), ev_ldi 346 0, ev_ald 347 0, ev_ild 349 4, ev_no, ev_psh 350 (.int (Int32.ofInt 2)), ev_bin 351 (fun x y => x + y), ev_ldi 352 0],
  [ev_cm0 355 359 (fun x => Nat.beq (ev_bits x) (ev_bits 0)), ev_no, ev_no, ev_psh 356 (.int (Int32.ofInt 1)), ev_jmp 360, ev_no, ev_no, ev_psh 360 (.int (Int32.ofInt 0)), ev_ald 361 3, ev_no, ev_no, ev_no, ev_ist 366 5, ev_no, ev_ald 367 2, ev_ald 368 0],
  [ev_ild 370 4, ev_no, ev_psh 371 (.int (Int32.ofInt 1)), ev_bin 372 (fun x y => x + y), ev_ldi 373 0, ev_ald 374 0, ev_ild 376 4, ev_no, ev_psh 377 (.int (Int32.ofInt 2)), ev_bin 378 (fun x y => x + y), ev_ldi 379 0, ev_cm0 382 386 (fun x => Nat.beq (ev_bits x) (ev_bits 0)), ev_no, ev_no, ev_psh 383 (.int (Int32.ofInt 1)), ev_jmp 387],
  [ev_no, ev_no, ev_psh 387 (.int (Int32.ofInt 0)), ev_no, ev_no, ev_no, ev_ist 392 6, ev_no, ev_jmp 897, ev_no, ev_no, ev_ald 396 1, ev_ald 397 0, ev_ild 399 4, ev_no, ev_psh 400 (.int (Int32.ofInt 1))],
  [ev_bin 401 (fun x y => x + y), ev_ldi 402 0, ev_ald 403 0, ev_ild 405 4, ev_no, ev_psh 406 (.int (Int32.ofInt 2)), ev_bin 407 (fun x y => x + y), ev_ldi 408 0, ev_ald 409 0, ev_ild 411 4, ev_no, ev_psh 412 (.int (Int32.ofInt 3)), ev_bin 413 (fun x y => x + y), ev_ldi 414 0, ev_ald 415 3, ev_no],
  [ev_no, ev_no, ev_ist 420 5, ev_no, ev_ald 421 2, ev_ald 422 0, ev_ild 424 4, ev_no, ev_psh 425 (.int (Int32.ofInt 1)), ev_bin 426 (fun x y => x + y), ev_ldi 427 0, ev_ald 428 0, ev_ild 430 4, ev_no, ev_psh 431 (.int (Int32.ofInt 2)), ev_bin 432 (fun x y => x + y)],
  [ev_ldi 433 0, ev_ald 434 0, ev_ild 436 4, ev_no, ev_psh 437 (.int (Int32.ofInt 3)), ev_bin 438 (fun x y => x + y), ev_ldi 439 0, ev_no, ev_no, ev_no, ev_ist 444 6, ev_no, ev_jmp 897, ev_no, ev_no, ev_ald 448 1],
  [ev_ald 449 3, ev_no, ev_no, ev_no, ev_ist 454 5, ev_no, ev_ald 455 2, ev_no, ev_no, ev_no, ev_ist 460 6, ev_no, ev_jmp 897, ev_no, ev_no, ev_ald 464 1],
  [ev_ald 465 0, ev_ild 467 4, ev_no, ev_psh 468 (.int (Int32.ofInt 1)), ev_bin 469 (fun x y => x + y), ev_ldi 470 0, ev_ald 471 3, ev_no, ev_no, ev_no, ev_ist 476 5, ev_no, ev_ald 477 2, ev_ald 478 0, ev_ild 480 4, ev_no],
  [ev_psh 481 (.int (Int32.ofInt 1)), ev_bin 482 (fun x y => x + y), ev_ldi 483 0, ev_no, ev_no, ev_no, ev_ist 488 6, ev_no, ev_jmp 897, ev_no, ev_no, ev_ald 492 1, ev_ald 493 0, ev_ild 495 4, ev_no, ev_psh 496 (.int (Int32.ofInt 1))],
  [ev_bin 497 (fun x y => x + y), ev_ldi 498 0, ev_ald 499 3, ev_no, ev_no, ev_no, ev_ist 504 5, ev_no, ev_ald 505 2, ev_ald 506 0, ev_ild 508 4, ev_no, ev_psh 509 (.int (Int32.ofInt 1)), ev_bin 510 (fun x y => x + y), ev_ldi 511 0, ev_no],
  [ev_no, ev_no, ev_ist 516 6, ev_no, ev_jmp 897, ev_no, ev_no, ev_ald 520 1, ev_no, ev_no, ev_no, ev_drop 524, ev_ald 525 2, ev_no, ev_no, ev_no],
  [ev_drop 529, ev_jmp 897, ev_no, ev_no, ev_ald 533 1, ev_ald 534 0, ev_ild 536 4, ev_no, ev_psh 537 (.int (Int32.ofInt 1)), ev_bin 538 (fun x y => x + y), ev_ldi 539 0, ev_ald 540 0, ev_ild 542 4, ev_no, ev_psh 543 (.int (Int32.ofInt 2)), ev_bin 544 (fun x y => x + y)],
  [ev_ldi 545 0, ev_ald 546 3, ev_no, ev_no, ev_no, ev_ist 551 5, ev_no, ev_ald 552 2, ev_ald 553 0, ev_ild 555 4, ev_no, ev_psh 556 (.int (Int32.ofInt 1)), ev_bin 557 (fun x y => x + y), ev_ldi 558 0, ev_ald 559 0, ev_ild 561 4],
  [ev_no, ev_psh 562 (.int (Int32.ofInt 2)), ev_bin 563 (fun x y => x + y), ev_ldi 564 0, ev_no, ev_no, ev_no, ev_ist 569 6, ev_no, ev_jmp 897, ev_no, ev_no, ev_ald 573 1, ev_ald 574 0, ev_ild 576 4, ev_no],
  [ev_psh 577 (.int (Int32.ofInt 1)), ev_bin 578 (fun x y => x + y), ev_ldi 579 0, ev_ald 580 0, ev_ild 582 4, ev_no, ev_psh 583 (.int (Int32.ofInt 2)), ev_bin 584 (fun x y => x + y), ev_ldi 585 0, ev_ald 586 3, ev_no, ev_no, ev_no, ev_ist 591 5, ev_no, ev_ald 592 2],
  [ev_ald 593 0, ev_ild 595 4, ev_no, ev_psh 596 (.int (Int32.ofInt 1)), ev_bin 597 (fun x y => x + y), ev_ldi 598 0, ev_ald 599 0, ev_ild 601 4, ev_no, ev_psh 602 (.int (Int32.ofInt 2)), ev_bin 603 (fun x y => x + y), ev_ldi 604 0, ev_no, ev_no, ev_no, ev_ist 609 6],
  [ev_no, ev_jmp 897, ev_no, ev_no, ev_ald 613 1, ev_ald 614 0, ev_ild 616 4, ev_no, ev_psh 617 (.int (Int32.ofInt 1)), ev_bin 618 (fun x y => x + y), ev_ldi 619 0, ev_ald 620 3, ev_no, ev_no, ev_no, ev_ist 625 5],
  [ev_no, ev_ald 626 2, ev_ald 627 0, ev_ild 629 4, ev_no, ev_psh 630 (.int (Int32.ofInt 1)), ev_bin 631 (fun x y => x + y), ev_ldi 632 0, ev_no, ev_no, ev_no, ev_ist 637 6, ev_no, ev_jmp 897, ev_no, ev_no],
  [ev_ald 641 1, ev_no, ev_no, ev_no, ev_drop 645, ev_ald 646 2, ev_no, ev_no, ev_no, ev_drop 650, ev_jmp 897, ev_no, ev_no, ev_ald 654 1, ev_ald 655 0, ev_ild 657 4],
  [ev_no, ev_psh 658 (.int (Int32.ofInt 1)), ev_bin 659 (fun x y => x + y), ev_ldi 660 0, ev_ald 661 3, ev_no, ev_no, ev_no, ev_ist 666 5, ev_no, ev_ald 667 2, ev_ald 668 0, ev_ild 670 4, ev_no, ev_psh 671 (.int (Int32.ofInt 1)), ev_bin 672 (fun x y => x + y)],
  [ev_ldi 673 0, ev_no, ev_no, ev_no, ev_ist 678 6, ev_no, ev_jmp 897, ev_no, ev_no, ev_ald 682 1, ev_ald 683 0, ev_ild 685 4, ev_no, ev_psh 686 (.int (Int32.ofInt 1)), ev_bin 687 (fun x y => x + y), ev_ldi 688 0],
  [ev_ald 689 3, ev_no, ev_no, ev_no, ev_ist 694 5, ev_no, ev_ald 695 2, ev_ald 696 0, ev_ild 698 4, ev_no, ev_psh 699 (.int (Int32.ofInt 1)), ev_bin 700 (fun x y => x + y), ev_ldi 701 0, ev_no, ev_no, ev_no],
  [ev_ist 706 6, ev_no, ev_jmp 897, ev_no, ev_no, ev_ald 710 1, ev_no, ev_no, ev_no, ev_no, ev_ald 715 2, ev_no, ev_no, ev_no, ev_no, ev_jmp 897],
  [ev_no, ev_no, ev_ald 723 1, ev_ald 724 0, ev_ild 726 4, ev_no, ev_psh 727 (.int (Int32.ofInt 1)), ev_bin 728 (fun x y => x + y), ev_ldi 729 0, ev_ald 730 0, ev_ild 732 4, ev_no, ev_psh 733 (.int (Int32.ofInt 2)), ev_bin 734 (fun x y => x + y), ev_ldi 735 0, ev_ald 736 0],
  [ev_ild 738 4, ev_no, ev_psh 739 (.int (Int32.ofInt 3)), ev_bin 740 (fun x y => x + y), ev_ldi 741 0, ev_ald 742 3, ev_no, ev_no, ev_no, ev_ist 747 5, ev_no, ev_ald 748 2, ev_ald 749 0, ev_ild 751 4, ev_no, ev_psh 752 (.int (Int32.ofInt 1))],
  [ev_bin 753 (fun x y => x + y), ev_ldi 754 0, ev_ald 755 0, ev_ild 757 4, ev_no, ev_psh 758 (.int (Int32.ofInt 2)), ev_bin 759 (fun x y => x + y), ev_ldi 760 0, ev_ald 761 0, ev_ild 763 4, ev_no, ev_psh 764 (.int (Int32.ofInt 3)), ev_bin 765 (fun x y => x + y), ev_ldi 766 0, ev_no, ev_no],
  [ev_no, ev_ist 771 6, ev_no, ev_jmp 897, ev_no, ev_no, ev_ald 775 1, ev_ald 776 0, ev_ild 778 4, ev_no, ev_psh 779 (.int (Int32.ofInt 1)), ev_bin 780 (fun x y => x + y), ev_ldi 781 0, ev_ald 782 3, ev_no, ev_no],
  [ev_no, ev_ist 787 5, ev_no, ev_ald 788 2, ev_ald 789 0, ev_ild 791 4, ev_no, ev_psh 792 (.int (Int32.ofInt 1)), ev_bin 793 (fun x y => x + y), ev_ldi 794 0, ev_no, ev_no, ev_no, ev_ast 799 6, ev_no, ev_jmp 897],
  [ev_no, ev_no, ev_ald 803 1, ev_ald 804 0, ev_ild 806 4, ev_no, ev_psh 807 (.int (Int32.ofInt 1)), ev_bin 808 (fun x y => x + y), ev_ldi 809 0, ev_ald 810 3, ev_no, ev_no, ev_no, ev_ist 815 5, ev_no, ev_ald 816 2],
  [ev_ald 817 0, ev_ild 819 4, ev_no, ev_psh 820 (.int (Int32.ofInt 1)), ev_bin 821 (fun x y => x + y), ev_ldi 822 0, ev_no, ev_no, ev_no, ev_ist 827 6, ev_no, ev_jmp 897, ev_no, ev_no, ev_ald 831 1, ev_inr cf 834 23 1 15],
  [ev_no, ev_no, ev_drop 835, ev_ald 836 2, ev_inr cf 839 40 1 18, ev_no, ev_no, ev_drop 840, ev_jmp 897, ev_no, ev_no, ev_ald 844 1, ev_ald 845 0, ev_ild 847 4, ev_no, ev_psh 848 (.int (Int32.ofInt 1))],
  [ev_bin 849 (fun x y => x + y), ev_ldi 850 0, ev_ald 851 3, ev_no, ev_no, ev_no, ev_ist 856 5, ev_no, ev_ald 857 2, ev_ald 858 0, ev_ild 860 4, ev_no, ev_psh 861 (.int (Int32.ofInt 1)), ev_bin 862 (fun x y => x + y), ev_ldi 863 0, ev_no],
  [ev_no, ev_no, ev_ist 868 6, ev_no, ev_jmp 897, ev_no, ev_no, ev_ald 872 1, ev_no, ev_no, ev_no, ev_drop 876, ev_ald 877 2, ev_no, ev_no, ev_no],
  [ev_drop 881, ev_jmp 897, ev_no, ev_no, ev_ald 885 1, ev_no, ev_no, ev_no, ev_no, ev_ald 890 2, ev_no, ev_no, ev_no, ev_no, ev_jmp 897, ev_no],
  [ev_no, ev_inc 900 4 (Int32.ofInt 4), ev_no, ev_no, ev_jmp 27, ev_no, ev_no, ev_psh 904 (.int (Int32.ofInt 1)), ev_rtz fin]]
noncomputable def ev_o17 {α : Type} (cf : Nat → List Value → ev_W → Option ev_R) (fin : Option Value → ev_W → Nat → Option α) : List (List (ev_O α)) := [[ev_ald 1 3, ev_ald 2 0, ev_ild 3 1, ev_ild 4 2, ev_inr cf 7 32 3 15, ev_no, ev_no, ev_i2l 8, ev_ptf 11 16 0 3, ev_no, ev_no, ev_jmp 22, ev_no, ev_no, ev_ast 16 4, ev_no],
  [ev_psh 17 (.int (Int32.ofInt 1)), ev_rti fin, ev_ast 20 4, ev_no, ev_psh 21 (.int (Int32.ofInt 2)), ev_rti fin, ev_psh 23 (.int (Int32.ofInt 0)), ev_rti fin]]
noncomputable def ev_o18 {α : Type} (cf : Nat → List Value → ev_W → Option ev_R) (fin : Option Value → ev_W → Nat → Option α) : List (List (ev_O α)) := [[ev_ald 1 2, ev_ald 2 0, ev_ild 3 1, ev_inr cf 6 35 2 15, ev_no, ev_no, ev_i2l 7, ev_ptf 10 16 0 3, ev_no, ev_no, ev_jmp 19, ev_no, ev_no, ev_ast 14 3, ev_psh 15 (.int (Int32.ofInt 1)), ev_rti fin],
  [ev_ast 17 3, ev_psh 18 (.int (Int32.ofInt 2)), ev_rti fin, ev_psh 20 (.int (Int32.ofInt 0)), ev_rti fin]]
noncomputable def ev_o19 {α : Type} (cf : Nat → List Value → ev_W → Option ev_R) (fin : Option Value → ev_W → Nat → Option α) : List (List (ev_O α)) := [[ev_ald 1 0, ev_get 4 5 0, ev_no, ev_no, ev_ald 5 0, ev_get 8 5 2, ev_no, ev_no, ev_ild 9 1, ev_inv cf 12 31 3, ev_no, ev_no, ev_ald 13 0, ev_get 16 5 1, ev_no, ev_no],
  [ev_ald 17 0, ev_get 20 5 2, ev_no, ev_no, ev_ild 21 2, ev_inv cf 24 31 3, ev_no, ev_no, ev_ald 25 0, ev_dup 26, ev_get 29 5 2, ev_no, ev_no, ev_psh 30 (.int (Int32.ofInt 1)), ev_bin 31 (fun x y => x + y), ev_ptf 34 5 2 0],
  [ev_no, ev_no, ev_ald 35 0, ev_get 38 5 2, ev_no, ev_no, ev_rti fin]]
noncomputable def ev_o20 {α : Type} (cf : Nat → List Value → ev_W → Option ev_R) (fin : Option Value → ev_W → Nat → Option α) : List (List (ev_O α)) := [[ev_ald 1 0, ev_get 4 5 2, ev_no, ev_no, ev_ist 5 1, ev_ald 6 0, ev_psh 7 (.int (Int32.ofInt 0)), ev_ptf 10 5 2 0, ev_no, ev_no, ev_ild 11 1, ev_rti fin]]
noncomputable def ev_o21 {α : Type} (cf : Nat → List Value → ev_W → Option ev_R) (fin : Option Value → ev_W → Nat → Option α) : List (List (ev_O α)) := [[ev_ald 1 0, ev_obj 4, ev_no, ev_no, ev_ald 5 0, ev_psh 7 (.int (Int8.ofInt 12).toInt32), ev_no, ev_nwa 9 0 (.int 0), ev_no, ev_ptf 12 5 0 1, ev_no, ev_no, ev_ald 13 0, ev_psh 15 (.int (Int8.ofInt 12).toInt32), ev_no, ev_nwa 17 0 (.int 0)],
  [ev_no, ev_ptf 20 5 1 1, ev_no, ev_no, ev_rtv fin]]
noncomputable def ev_o22 {α : Type} (cf : Nat → List Value → ev_W → Option ev_R) (fin : Option Value → ev_W → Nat → Option α) : List (List (ev_O α)) := [[ev_ild 1 1, ev_cm0 4 16 (fun x => Nat.blt (ev_sg x) (ev_sg 0)), ev_no, ev_no, ev_ild 5 1, ev_ald 6 0, ev_aln 7, ev_cmp 10 16 (fun x y => Nat.ble (ev_sg y) (ev_sg x)), ev_no, ev_no, ev_ald 11 0, ev_ild 12 1, ev_ldi 13 0, ev_jmp 17, ev_no, ev_no],
  [ev_ild 17 2, ev_rti fin]]
noncomputable def ev_o23 {α : Type} (cf : Nat → List Value → ev_W → Option ev_R) (fin : Option Value → ev_W → Nat → Option α) : List (List (ev_O α)) := [[ev_ald 1 0, ev_inr cf 4 34 1 15, ev_no, ev_no, ev_ald 5 0, ev_get 8 15 5, ev_no, ev_no, ev_ald 9 0, ev_get 12 15 0, ev_no, ev_no, ev_inr cf 15 73 2 14, ev_no, ev_no, ev_rti fin]]
noncomputable def ev_o24 {α : Type} (cf : Nat → List Value → ev_W → Option ev_R) (fin : Option Value → ev_W → Nat → Option α) : List (List (ev_O α)) := [[ev_ald 1 0, ev_get 4 15 1, ev_no, ev_no, ev_get 7 5 2, ev_no, ev_no, ev_psh 9 (.int (Int8.ofInt 12).toInt32), ev_no, ev_cmp 12 23 (fun x y => Nat.blt (ev_sg x) (ev_sg y)), ev_no, ev_no, ev_no, ev_no, ev_no, ev_dup 16],
  [ev_no, ev_no, ev_no, ev_no, ev_no, ev_no, ev_no, ev_rtv fin]]
noncomputable def ev_o25 {α : Type} (cf : Nat → List Value → ev_W → Option ev_R) (fin : Option Value → ev_W → Nat → Option α) : List (List (ev_O α)) := [[ev_ild 1 0, ev_cm0 4 32 (fun x => Nat.blt (ev_sg x) (ev_sg 0)), ev_no, ev_no, ev_ild 5 0, ev_psh 8 (.int (Int16.ofInt 556).toInt32), ev_no, ev_no, ev_cmp 11 32 (fun x y => Nat.ble (ev_sg y) (ev_sg x)), ev_no, ev_no, ev_ild 12 0, ev_psh 14 (.int (Int8.ofInt 10).toInt32), ev_no, ev_div 15 (fun x y => x / y), ev_psh 17 (.int (Int8.ofInt 10).toInt32)],
  [ev_no, ev_div 18 (fun x y => x - x / y * y), ev_psh 20 (.int (Int8.ofInt 6).toInt32), ev_no, ev_cmp 23 32 (fun x y => Nat.ble (ev_sg y) (ev_sg x)), ev_no, ev_no, ev_ild 24 0, ev_psh 26 (.int (Int8.ofInt 10).toInt32), ev_no, ev_div 27 (fun x y => x - x / y * y), ev_psh 29 (.int (Int8.ofInt 6).toInt32), ev_no, ev_cmp 32 43 (fun x y => Nat.blt (ev_sg x) (ev_sg y)), ev_no, ev_no],
  [ev_no, ev_no, ev_no, ev_dup 36, ev_no, ev_no, ev_no, ev_no, ev_no, ev_no, ev_no, ev_rtv fin]]
noncomputable def ev_o26 {α : Type} (cf : Nat → List Value → ev_W → Option ev_R) (fin : Option Value → ev_W → Nat → Option α) : List (List (ev_O α)) := [[ev_ald 1 0, ev_get 4 15 12, ev_no, ev_no, ev_psh 6 (.int (Int8.ofInt 50).toInt32), ev_no, ev_cmp 9 19 (fun x y => Nat.blt (ev_sg x) (ev_sg y)), ev_no, ev_no, ev_no, ev_no, ev_no, ev_dup 13, ev_no, ev_no, ev_no],
  [ev_no, ev_no, ev_no, ev_ald 20 0, ev_inr cf 23 34 1 15, ev_no, ev_no, ev_ald 24 0, ev_get 27 15 3, ev_no, ev_no, ev_get 30 12 5, ev_no, ev_no, ev_psh 32 (.int (Int8.ofInt 60).toInt32), ev_no],
  [ev_cmp 35 45 (fun x y => Nat.ble (ev_sg x) (ev_sg y)), ev_no, ev_no, ev_no, ev_no, ev_no, ev_dup 39, ev_no, ev_no, ev_no, ev_no, ev_no, ev_no, ev_ald 46 0, ev_get 49 15 5, ev_no],
  [ev_no, ev_ald 50 0, ev_get 53 15 0, ev_no, ev_no, ev_inr cf 56 73 2 14, ev_no, ev_no, ev_cm0 59 69 (fun x => Nat.ble (ev_sg x) (ev_sg 0)), ev_no, ev_no, ev_no, ev_no, ev_no, ev_dup 63, ev_no],
  [ev_no, ev_no, ev_no, ev_no, ev_no, ev_ald 70 0, ev_dup 71, ev_get 74 15 12, ev_no, ev_no, ev_psh 75 (.int (Int32.ofInt 1)), ev_bin 76 (fun x y => x + y), ev_ptf 79 15 12 0, ev_no, ev_no, ev_ald 80 0],
  [ev_get 83 15 2, ev_no, ev_no, ev_ald 84 0, ev_get 87 15 3, ev_no, ev_no, ev_inr cf 90 65 2 12, ev_no, ev_no, ev_ald 91 0, ev_get 94 15 1, ev_no, ev_no, ev_inr cf 97 20 1 5, ev_no],
  [ev_no, ev_drop 98, ev_ald 99 0, ev_inr cf 102 33 1 15, ev_no, ev_no, ev_ald 103 0, ev_get 106 15 12, ev_no, ev_no, ev_rti fin]]
noncomputable def ev_o27 {α : Type} (cf : Nat → List Value → ev_W → Option ev_R) (fin : Option Value → ev_W → Nat → Option α) : List (List (ev_O α)) := [[ev_psh 1 (.int (Int32.ofInt 0)), ev_ist 2 3, ev_ild 3 3, ev_ild 4 2, ev_cmp 7 31 (fun x y => Nat.ble (ev_sg y) (ev_sg x)), ev_no, ev_no, ev_ild 8 3, ev_ald 9 0, ev_aln 10, ev_cmp 13 31 (fun x y => Nat.ble (ev_sg y) (ev_sg x)), ev_no, ev_no, ev_ild 14 3, ev_ald 15 1, ev_aln 16],
  [ev_cmp 19 31 (fun x y => Nat.ble (ev_sg y) (ev_sg x)), ev_no, ev_no, ev_ald 20 1, ev_ild 21 3, ev_ald 22 0, ev_ild 23 3, ev_ldi 24 0, ev_sti 25 0 (fun x => x), ev_inc 28 3 (Int32.ofInt 1), ev_no, ev_no, ev_jmp 2, ev_no, ev_no, ev_rtv fin]]
noncomputable def ev_o28 {α : Type} (cf : Nat → List Value → ev_W → Option ev_R) (fin : Option Value → ev_W → Nat → Option α) : List (List (ev_O α)) := [[ev_psh 1 (.int (Int32.ofInt 0)), ev_ist 2 2, ev_ild 3 2, ev_ald 4 0, ev_aln 5, ev_cmp 8 18 (fun x y => Nat.ble (ev_sg y) (ev_sg x)), ev_no, ev_no, ev_ald 9 0, ev_ild 10 2, ev_ild 11 1, ev_sti 12 0 (fun x => x), ev_inc 15 2 (Int32.ofInt 1), ev_no, ev_no, ev_jmp 2],
  [ev_no, ev_no, ev_rtv fin]]
noncomputable def ev_o29 {α : Type} (cf : Nat → List Value → ev_W → Option ev_R) (fin : Option Value → ev_W → Nat → Option α) : List (List (ev_O α)) := [[ev_ald 1 0, ev_obj 4, ev_no, ev_no, ev_ald 5 0, ev_new 8 9 2 [.null, .int 0], ev_no, ev_no, ev_dup 9, ev_ini cf 12 60 1, ev_no, ev_no, ev_ptf 15 15 0 1, ev_no, ev_no, ev_ald 16 0],
  [ev_new 19 5 3 [.null, .null, .int 0], ev_no, ev_no, ev_dup 20, ev_ini cf 23 21 1, ev_no, ev_no, ev_ptf 26 15 1 1, ev_no, ev_no, ev_ald 27 0, ev_new 30 12 6 [.null, .null, .null, .null, .null, .int 0], ev_no, ev_no, ev_dup 31, ev_ini cf 34 68 1],
  [ev_no, ev_no, ev_ptf 37 15 2 1, ev_no, ev_no, ev_ald 38 0, ev_new 41 12 6 [.null, .null, .null, .null, .null, .int 0], ev_no, ev_no, ev_dup 42, ev_ini cf 45 68 1, ev_no, ev_no, ev_ptf 48 15 3 1, ev_no, ev_no],
  [ev_ald 49 0, ev_new 52 14 1 [.null], ev_no, ev_no, ev_dup 53, ev_ini cf 56 75 1, ev_no, ev_no, ev_ptf 59 15 4 1, ev_no, ev_no, ev_ald 60 0, ev_new 63 14 1 [.null], ev_no, ev_no, ev_dup 64],
  [ev_ini cf 67 75 1, ev_no, ev_no, ev_ptf 70 15 5 1, ev_no, ev_no, ev_ald 71 0, ev_new 74 13 4 [.null, .null, .null, .int 0], ev_no, ev_no, ev_dup 75, ev_ini cf 78 72 1, ev_no, ev_no, ev_ptf 81 15 6 1, ev_no],
  [ev_no, ev_ald 82 0, ev_new 85 8 6 [.null, .null, .null, .null, .null, .int 0], ev_no, ev_no, ev_dup 86, ev_ini cf 89 57 1, ev_no, ev_no, ev_ptf 92 15 7 1, ev_no, ev_no, ev_ald 93 0, ev_new 96 7 3 [.null, .int 0, .int 0], ev_no, ev_no],
  [ev_dup 97, ev_ini cf 100 56 1, ev_no, ev_no, ev_ptf 103 15 8 1, ev_no, ev_no, ev_ald 104 0, ev_new 107 7 3 [.null, .int 0, .int 0], ev_no, ev_no, ev_dup 108, ev_ini cf 111 56 1, ev_no, ev_no, ev_ptf 114 15 9 1],
  [ev_no, ev_no, ev_ald 115 0, ev_new 118 10 3 [.null, .null, .null], ev_no, ev_no, ev_dup 119, ev_ini cf 122 62 1, ev_no, ev_no, ev_ptf 125 15 10 1, ev_no, ev_no, ev_ald 126 0, ev_new 129 11 9 [.null, .null, .null, .null, .null, .int 0, .int 0, .int 0, .int 0], ev_no],
  [ev_no, ev_dup 130, ev_ini cf 133 63 1, ev_no, ev_no, ev_ptf 136 15 11 1, ev_no, ev_no, ev_rtv fin]]
noncomputable def ev_o30 {α : Type} (cf : Nat → List Value → ev_W → Option ev_R) (fin : Option Value → ev_W → Nat → Option α) : List (List (ev_O α)) := [[ev_ild 1 0, ev_ild 2 1, ev_bin 3 (fun x y => x >>> (y &&& 31)), ev_psh 4 (.int (Int32.ofInt 1)), ev_bin 5 (fun x y => x &&& y), ev_cm0 8 12 (fun x => Nat.beq (ev_bits x) (ev_bits 0)), ev_no, ev_no, ev_psh 9 (.int (Int32.ofInt 1)), ev_jmp 13, ev_no, ev_no, ev_psh 13 (.int (Int32.ofInt 0)), ev_rtz fin]]
noncomputable def ev_o31 {α : Type} (cf : Nat → List Value → ev_W → Option ev_R) (fin : Option Value → ev_W → Nat → Option α) : List (List (ev_O α)) := [[ev_ild 1 1, ev_cm0 4 14 (fun x => Nat.blt (ev_sg x) (ev_sg 0)), ev_no, ev_no, ev_ild 5 1, ev_ald 6 0, ev_aln 7, ev_cmp 10 14 (fun x y => Nat.ble (ev_sg y) (ev_sg x)), ev_no, ev_no, ev_ald 11 0, ev_ild 12 1, ev_ild 13 2, ev_sti 14 0 (fun x => x), ev_rtv fin]]
noncomputable def ev_o32 {α : Type} (cf : Nat → List Value → ev_W → Option ev_R) (fin : Option Value → ev_W → Nat → Option α) : List (List (ev_O α)) := [[ev_ild 1 1, ev_inv cf 4 25 1, ev_no, ev_no, ev_ild 5 2, ev_psh 6 (.int (Int32.ofInt 1)), ev_cmp 9 15 (fun x y => Nat.blt (ev_sg x) (ev_sg y)), ev_no, ev_no, ev_ild 10 2, ev_psh 12 (.int (Int8.ofInt 9).toInt32), ev_no, ev_cmp 15 25 (fun x y => Nat.ble (ev_sg x) (ev_sg y)), ev_no, ev_no, ev_no],
  [ev_no, ev_no, ev_dup 19, ev_no, ev_no, ev_no, ev_no, ev_no, ev_no, ev_ald 26 0, ev_inr cf 29 24 1 15, ev_no, ev_no, ev_ald 30 0, ev_get 33 15 1, ev_no],
  [ev_no, ev_ild 34 1, ev_ild 35 2, ev_inr cf 38 19 3 5, ev_no, ev_no, ev_rti fin]]
noncomputable def ev_o33 {α : Type} (cf : Nat → List Value → ev_W → Option ev_R) (fin : Option Value → ev_W → Nat → Option α) : List (List (ev_O α)) := [[ev_ald 1 0, ev_get 4 15 4, ev_no, ev_no, ev_ald 5 0, ev_get 8 15 2, ev_no, ev_no, ev_ald 9 0, ev_get 12 15 12, ev_no, ev_no, ev_inr cf 15 74 3 14, ev_no, ev_no, ev_ald 16 0],
  [ev_psh 17 (.int (Int32.ofInt 0)), ev_ptf 20 15 14 2, ev_no, ev_no, ev_ald 21 0, ev_psh 22 (.int (Int32.ofInt 0)), ev_ptf 25 15 15 2, ev_no, ev_no, ev_rtv fin]]
noncomputable def ev_o34 {α : Type} (cf : Nat → List Value → ev_W → Option ev_R) (fin : Option Value → ev_W → Nat → Option α) : List (List (ev_O α)) := [[ev_ald 1 0, ev_get 4 15 3, ev_no, ev_no, ev_ald 5 0, ev_get 8 15 2, ev_no, ev_no, ev_inr cf 11 65 2 12, ev_no, ev_no, ev_ald 12 0, ev_get 15 15 3, ev_no, ev_no, ev_ald 16 0],
  [ev_get 19 15 1, ev_no, ev_no, ev_ald 20 0, ev_get 23 15 12, ev_no, ev_no, ev_psh 24 (.int (Int32.ofInt 1)), ev_bin 25 (fun x y => x + y), ev_ald 26 0, ev_get 29 15 0, ev_no, ev_no, ev_inr cf 32 71 4 12, ev_no, ev_no],
  [ev_ald 33 0, ev_get 36 15 5, ev_no, ev_no, ev_ald 37 0, ev_get 40 15 3, ev_no, ev_no, ev_ald 41 0, ev_get 44 15 12, ev_no, ev_no, ev_psh 45 (.int (Int32.ofInt 1)), ev_bin 46 (fun x y => x + y), ev_inr cf 49 74 3 14, ev_no],
  [ev_no, ev_rtv fin]]
noncomputable def ev_o35 {α : Type} (cf : Nat → List Value → ev_W → Option ev_R) (fin : Option Value → ev_W → Nat → Option α) : List (List (ev_O α)) := [[ev_ild 1 1, ev_inv cf 4 25 1, ev_no, ev_no, ev_ald 5 0, ev_inr cf 8 24 1 15, ev_no, ev_no, ev_ald 9 0, ev_get 12 15 1, ev_no, ev_no, ev_ild 13 1, ev_psh 14 (.int (Int32.ofInt 0)), ev_inr cf 17 19 3 5, ev_no],
  [ev_no, ev_rti fin]]
noncomputable def ev_o36 {α : Type} (cf : Nat → List Value → ev_W → Option ev_R) (fin : Option Value → ev_W → Nat → Option α) : List (List (ev_O α)) := [[ev_ald 1 0, ev_obj 4, ev_no, ev_no, ev_rtv fin]]
noncomputable def ev_o37 {α : Type} (cf : Nat → List Value → ev_W → Option ev_R) (fin : Option Value → ev_W → Nat → Option α) : List (List (ev_O α)) := [[ev_ald 1 0, ev_get 4 17 2, ev_no, ev_no, ev_ild 5 1, ev_cmp 8 20 (fun x y => Nat.blt (ev_sg y) (ev_sg x)), ev_no, ev_no, ev_ild 9 1, ev_ald 10 0, ev_get 13 17 3, ev_no, ev_no, ev_cmp 16 20 (fun x y => Nat.ble (ev_sg y) (ev_sg x)), ev_no, ev_no],
  [ev_psh 17 (.int (Int32.ofInt 1)), ev_jmp 21, ev_no, ev_no, ev_psh 21 (.int (Int32.ofInt 0)), ev_rtz fin]]
noncomputable def ev_o38 {α : Type} (cf : Nat → List Value → ev_W → Option ev_R) (fin : Option Value → ev_W → Nat → Option α) : List (List (ev_O α)) := [[ev_ald 1 0, ev_obj 4, ev_no, ev_no, ev_ald 5 0, ev_psh 8 (.int (Int16.ofInt 1000).toInt32), ev_no, ev_no, ev_ptf 11 17 3 0, ev_no, ev_no, ev_rtv fin]]
noncomputable def ev_o39 {α : Type} (cf : Nat → List Value → ev_W → Option ev_R) (fin : Option Value → ev_W → Nat → Option α) : List (List (ev_O α)) := [[ev_ald 1 0, ev_ald 2 1, ev_ild 3 2, ev_psh 4 (.int (Int32.ofInt 0)), ev_inr cf 7 53 4 18, ev_no, ev_no, ev_ast 8 3, ev_psh 9 (.int (Int32.ofInt 0)), ev_ist 11 4, ev_no, ev_psh 12 (.int (Int32.ofInt 0)), ev_ist 14 5, ev_no, ev_ild 16 5, ev_no],
  [ev_psh 18 (.int (Int8.ofInt 6).toInt32), ev_no, ev_cmp 21 143 (fun x y => Nat.ble (ev_sg y) (ev_sg x)), ev_no, ev_no, ev_psh 22 (.int (Int32.ofInt 0)), ev_ist 24 6, ev_no, ev_psh 25 (.int (Int32.ofInt 0)), ev_ist 27 7, ev_no, ev_ild 29 7, ev_no, ev_psh 31 (.int (Int8.ofInt 6).toInt32), ev_no, ev_cmp 34 122 (fun x y => Nat.ble (ev_sg y) (ev_sg x))],
  [ev_no, ev_no, ev_psh 35 (.int (Int32.ofInt 0)), ev_ist 37 8, ev_no, ev_psh 38 (.int (Int32.ofInt 0)), ev_ist 40 9, ev_no, ev_ild 42 9, ev_no, ev_psh 44 (.int (Int8.ofInt 6).toInt32), ev_no, ev_cmp 47 100 (fun x y => Nat.ble (ev_sg y) (ev_sg x)), ev_no, ev_no, ev_ald 48 0],
  [ev_get 51 18 8, ev_no, ev_no, ev_ild 53 7, ev_no, ev_bin 54 (fun x y => x >>> (y &&& 31)), ev_psh 55 (.int (Int32.ofInt 1)), ev_bin 56 (fun x y => x &&& y), ev_psh 57 (.int (Int32.ofInt 1)), ev_cmp 60 100 (fun x y => !Nat.beq (ev_bits x) (ev_bits y)), ev_no, ev_no, ev_ild 62 8, ev_no, ev_ald 63 3, ev_psh 65 (.int (Int8.ofInt 36).toInt32)],
  [ev_no, ev_ild 67 5, ev_no, ev_bin 68 (fun x y => x * y), ev_psh 70 (.int (Int8.ofInt 6).toInt32), ev_no, ev_ald 71 0, ev_get 74 18 1, ev_no, ev_no, ev_ild 76 7, ev_no, ev_ldi 77 0, ev_bin 78 (fun x y => x * y), ev_bin 79 (fun x y => x + y), ev_ild 81 9],
  [ev_no, ev_bin 82 (fun x y => x + y), ev_ldi 83 1, ev_cm0 86 90 (fun x => Nat.beq (ev_bits x) (ev_bits 0)), ev_no, ev_no, ev_psh 87 (.int (Int32.ofInt 1)), ev_jmp 91, ev_no, ev_no, ev_psh 91 (.int (Int32.ofInt 0)), ev_bin 92 (fun x y => x + y), ev_ist 94 8, ev_no, ev_inc 97 9 (Int32.ofInt 1), ev_no],
  [ev_no, ev_jmp 40, ev_no, ev_no, ev_ild 102 6, ev_no, ev_ild 104 8, ev_no, ev_psh 105 (.int (Int32.ofInt 1)), ev_cmp 108 112 (fun x y => Nat.ble (ev_sg x) (ev_sg y)), ev_no, ev_no, ev_psh 109 (.int (Int32.ofInt 1)), ev_jmp 113, ev_no, ev_no],
  [ev_psh 113 (.int (Int32.ofInt 0)), ev_bin 114 (fun x y => x ||| y), ev_ist 116 6, ev_no, ev_inc 119 7 (Int32.ofInt 1), ev_no, ev_no, ev_jmp 27, ev_no, ev_no, ev_ild 124 4, ev_no, ev_ild 126 6, ev_no, ev_cm0 129 133 (fun x => Nat.beq (ev_bits x) (ev_bits 0)), ev_no],
  [ev_no, ev_psh 130 (.int (Int32.ofInt 1)), ev_jmp 134, ev_no, ev_no, ev_psh 134 (.int (Int32.ofInt 0)), ev_bin 135 (fun x y => x + y), ev_ist 137 4, ev_no, ev_inc 140 5 (Int32.ofInt 1), ev_no, ev_no, ev_jmp 14, ev_no, ev_no, ev_ild 145 4],
  [ev_no, ev_rti fin]]
noncomputable def ev_o40 {α : Type} (cf : Nat → List Value → ev_W → Option ev_R) (fin : Option Value → ev_W → Nat → Option α) : List (List (ev_O α)) := [[ev_ald 1 0, ev_psh 2 (.int (Int32.ofInt 0)), ev_ptf 5 18 0 0, ev_no, ev_no, ev_ald 6 0, ev_ald 7 0, ev_inr cf 10 42 1 18, ev_no, ev_no, ev_ald 11 0, ev_get 14 18 2, ev_no, ev_no, ev_psh 15 (.int (Int32.ofInt 1)), ev_bin 16 (fun x y => x + y)],
  [ev_inr cf 19 39 3 18, ev_no, ev_no, ev_rti fin]]
noncomputable def ev_o41 {α : Type} (cf : Nat → List Value → ev_W → Option ev_R) (fin : Option Value → ev_W → Nat → Option α) : List (List (ev_O α)) := [[ev_ald 1 0, ev_psh 2 (.int (Int32.ofInt 0)), ev_ptf 5 18 0 0, ev_no, ev_no, ev_ald 6 0, ev_inr cf 9 42 1 18, ev_no, ev_no, ev_ast 10 1, ev_ald 11 0, ev_get 14 18 2, ev_no, ev_no, ev_psh 16 (.int (Int8.ofInt 50).toInt32), ev_no],
  [ev_cmp 19 42 (fun x y => Nat.beq (ev_bits x) (ev_bits y)), ev_no, ev_no, ev_ald 20 1, ev_inr cf 23 12 1 4, ev_no, ev_no, ev_psh 25 (.int (Int8.ofInt 60).toInt32), ev_no, ev_cmp 28 42 (fun x y => Nat.blt (ev_sg y) (ev_sg x)), ev_no, ev_no, ev_ald 29 0, ev_ald 30 1, ev_ald 31 0, ev_get 34 18 2],
  [ev_no, ev_no, ev_psh 35 (.int (Int32.ofInt 1)), ev_bin 36 (fun x y => x + y), ev_inr cf 39 39 3 18, ev_no, ev_no, ev_cm0 42 48 (fun x => Nat.ble (ev_sg x) (ev_sg 0)), ev_no, ev_no, ev_ald 43 0, ev_psh 44 (.int (Int32.ofInt 1)), ev_no, ev_no, ev_no, ev_rti fin],
  [ev_ald 49 0, ev_get 52 18 3, ev_no, ev_no, ev_inr cf 55 7 1 4, ev_no, ev_no, ev_ald 56 1, ev_inr cf 59 11 1 4, ev_no, ev_no, ev_ast 60 2, ev_ald 61 2, ev_inr cf 66 2 1 3, ev_no, ev_no],
  [ev_no, ev_no, ev_cm0 69 91 (fun x => Nat.beq (ev_bits x) (ev_bits 0)), ev_no, ev_no, ev_ald 70 2, ev_inr cf 75 4 1 3, ev_no, ev_no, ev_no, ev_no, ev_cst 78 20, ev_no, ev_no, ev_ast 79 3, ev_ald 80 0],
  [ev_get 83 18 3, ev_no, ev_no, ev_ald 84 3, ev_inr cf 87 6 2 4, ev_no, ev_no, ev_drop 88, ev_jmp 60, ev_no, ev_no, ev_ald 92 0, ev_get 95 18 4, ev_no, ev_no, ev_inr cf 98 7 1 4],
  [ev_no, ev_no, ev_ald 99 0, ev_dup 100, ev_get 103 18 2, ev_no, ev_no, ev_psh 104 (.int (Int32.ofInt 1)), ev_bin 105 (fun x y => x + y), ev_ptf 108 18 2 0, ev_no, ev_no, ev_ald 109 0, ev_inr cf 112 44 1 18, ev_no, ev_no],
  [ev_ald 113 0, ev_get 116 18 2, ev_no, ev_no, ev_rti fin]]
noncomputable def ev_o42 {α : Type} (cf : Nat → List Value → ev_W → Option ev_R) (fin : Option Value → ev_W → Nat → Option α) : List (List (ev_O α)) := [[ev_new 3 4 3 [.int 0, .null, .int 0], ev_no, ev_no, ev_dup 4, ev_ini cf 7 10 1, ev_no, ev_no, ev_ast 8 1, ev_ald 9 0, ev_get 12 18 2, ev_no, ev_no, ev_psh 13 (.int (Int32.ofInt 1)), ev_bin 14 (fun x y => x + y), ev_ist 15 2, ev_ald 16 0],
  [ev_get 19 18 3, ev_no, ev_no, ev_inr cf 22 11 1 4, ev_no, ev_no, ev_ast 23 3, ev_ald 24 3, ev_inr cf 29 2 1 3, ev_no, ev_no, ev_no, ev_no, ev_cm0 32 102 (fun x => Nat.beq (ev_bits x) (ev_bits 0)), ev_no, ev_no],
  [ev_ald 33 3, ev_inr cf 38 4 1 3, ev_no, ev_no, ev_no, ev_no, ev_cst 41 20, ev_no, ev_no, ev_ast 43 4, ev_no, ev_new 46 17 4 [.int 0, .int 0, .int 0, .int 0], ev_no, ev_no, ev_dup 47, ev_ini cf 50 38 1],
  [ev_no, ev_no, ev_ast 52 5, ev_no, ev_ald 54 5, ev_no, ev_ald 56 4, ev_no, ev_get 59 17 0, ev_no, ev_no, ev_ptf 62 17 0 0, ev_no, ev_no, ev_ald 64 5, ev_no],
  [ev_ald 66 4, ev_no, ev_get 69 17 1, ev_no, ev_no, ev_ptf 72 17 1 0, ev_no, ev_no, ev_ald 74 5, ev_no, ev_ald 76 4, ev_no, ev_get 79 17 2, ev_no, ev_no, ev_ptf 82 17 2 0],
  [ev_no, ev_no, ev_ald 84 5, ev_no, ev_ald 86 4, ev_no, ev_get 89 17 3, ev_no, ev_no, ev_ptf 92 17 3 0, ev_no, ev_no, ev_ald 93 1, ev_ald 95 5, ev_no, ev_inr cf 98 6 2 4],
  [ev_no, ev_no, ev_drop 99, ev_jmp 23, ev_no, ev_no, ev_ald 103 0, ev_get 106 18 4, ev_no, ev_no, ev_inr cf 109 11 1 4, ev_no, ev_no, ev_ast 110 3, ev_ald 111 3, ev_inr cf 116 2 1 3],
  [ev_no, ev_no, ev_no, ev_no, ev_cm0 119 306 (fun x => Nat.beq (ev_bits x) (ev_bits 0)), ev_no, ev_no, ev_ald 120 3, ev_inr cf 125 4 1 3, ev_no, ev_no, ev_no, ev_no, ev_cst 128 0, ev_no, ev_no],
  [ev_ast 130 4, ev_no, ev_psh 131 (.int (Int32.ofInt 0)), ev_ist 133 5, ev_no, ev_ald 134 1, ev_inr cf 137 11 1 4, ev_no, ev_no, ev_ast 139 6, ev_no, ev_ald 141 6, ev_no, ev_inr cf 146 2 1 3, ev_no, ev_no],
  [ev_no, ev_no, ev_cm0 149 248 (fun x => Nat.beq (ev_bits x) (ev_bits 0)), ev_no, ev_no, ev_ald 151 6, ev_no, ev_inr cf 156 4 1 3, ev_no, ev_no, ev_no, ev_no, ev_cst 159 20, ev_no, ev_no, ev_ast 161 7],
  [ev_no, ev_ald 163 7, ev_no, ev_ild 164 2, ev_inr cf 167 37 2 17, ev_no, ev_no, ev_cm0 170 173 (fun x => !Nat.beq (ev_bits x) (ev_bits 0)), ev_no, ev_no, ev_jmp 139, ev_no, ev_no, ev_ald 175 4, ev_no, ev_psh 176 (.int (Int32.ofInt 1))],
  [ev_ldi 177 0, ev_cm0 180 206 (fun x => !Nat.beq (ev_bits x) (ev_bits 0)), ev_no, ev_no, ev_ald 181 0, ev_ald 183 7, ev_no, ev_get 186 17 0, ev_no, ev_no, ev_inr cf 189 50 2 18, ev_no, ev_no, ev_ald 190 0, ev_ald 192 4, ev_no],
  [ev_psh 193 (.int (Int32.ofInt 0)), ev_ldi 194 0, ev_inr cf 197 50 2 18, ev_no, ev_no, ev_cmp 200 206 (fun x y => !Nat.beq (ev_bits x) (ev_bits y)), ev_no, ev_no, ev_ald 202 7, ev_no, ev_ild 203 2, ev_ptf 206 17 3 0, ev_no, ev_no, ev_ald 208 4, ev_no],
  [ev_psh 209 (.int (Int32.ofInt 1)), ev_ldi 210 0, ev_cm0 213 245 (fun x => Nat.ble (ev_sg x) (ev_sg 0)), ev_no, ev_no, ev_ald 215 7, ev_no, ev_get 218 17 0, ev_no, ev_no, ev_ald 220 4, ev_no, ev_psh 221 (.int (Int32.ofInt 0)), ev_ldi 222 0, ev_cmp 225 245 (fun x y => !Nat.beq (ev_bits x) (ev_bits y)), ev_no],
  [ev_no, ev_ald 227 7, ev_no, ev_ald 229 7, ev_no, ev_get 232 17 1, ev_no, ev_no, ev_ald 234 4, ev_no, ev_psh 235 (.int (Int32.ofInt 1)), ev_ldi 236 0, ev_no, ev_no, ev_no, ev_ptf 242 17 1 0],
  [ev_no, ev_no, ev_psh 243 (.int (Int32.ofInt 1)), ev_ist 245 5, ev_no, ev_jmp 139, ev_no, ev_no, ev_ald 250 4, ev_no, ev_psh 251 (.int (Int32.ofInt 1)), ev_ldi 252 0, ev_cm0 255 110 (fun x => Nat.beq (ev_bits x) (ev_bits 0)), ev_no, ev_no, ev_ild 257 5],
  [ev_no, ev_cm0 260 263 (fun x => Nat.beq (ev_bits x) (ev_bits 0)), ev_no, ev_no, ev_jmp 110, ev_no, ev_no, ev_new 266 17 4 [.int 0, .int 0, .int 0, .int 0], ev_no, ev_no, ev_dup 267, ev_ini cf 270 38 1, ev_no, ev_no, ev_ast 272 6, ev_no],
  [ev_ald 274 6, ev_no, ev_ald 276 4, ev_no, ev_psh 277 (.int (Int32.ofInt 0)), ev_ldi 278 0, ev_ptf 281 17 0 0, ev_no, ev_no, ev_ald 283 6, ev_no, ev_ald 285 4, ev_no, ev_psh 286 (.int (Int32.ofInt 1)), ev_ldi 287 0, ev_ptf 290 17 1 0],
  [ev_no, ev_no, ev_ald 292 6, ev_no, ev_ild 293 2, ev_ptf 296 17 2 0, ev_no, ev_no, ev_ald 297 1, ev_ald 299 6, ev_no, ev_inr cf 302 6 2 4, ev_no, ev_no, ev_drop 303, ev_jmp 110],
  [ev_no, ev_no, ev_ald 307 1, ev_rta fin]]
noncomputable def ev_o43 {α : Type} (cf : Nat → List Value → ev_W → Option ev_R) (fin : Option Value → ev_W → Nat → Option α) : List (List (ev_O α)) := [[ev_ild 1 1, ev_cm0 4 11 (fun x => !Nat.beq (ev_bits x) (ev_bits 0)), ev_no, ev_no, ev_ild 5 0, ev_psh 7 (.int (Int8.ofInt 100).toInt32), ev_no, ev_div 8 (fun x y => x / y), ev_jmp 30, ev_no, ev_no, ev_ild 12 1, ev_psh 13 (.int (Int32.ofInt 1)), ev_cmp 16 26 (fun x y => !Nat.beq (ev_bits x) (ev_bits y)), ev_no, ev_no],
  [ev_ild 17 0, ev_psh 19 (.int (Int8.ofInt 10).toInt32), ev_no, ev_div 20 (fun x y => x / y), ev_psh 22 (.int (Int8.ofInt 10).toInt32), ev_no, ev_div 23 (fun x y => x - x / y * y), ev_jmp 30, ev_no, ev_no, ev_ild 27 0, ev_psh 29 (.int (Int8.ofInt 10).toInt32), ev_no, ev_div 30 (fun x y => x - x / y * y), ev_rti fin]]
noncomputable def ev_o44 {α : Type} (cf : Nat → List Value → ev_W → Option ev_R) (fin : Option Value → ev_W → Nat → Option α) : List (List (ev_O α)) := [[ev_ald 1 0, ev_psh 2 .null, ev_ptf 5 18 9 1, ev_no, ev_no, ev_ald 6 0, ev_psh 7 .null, ev_ptf 10 18 10 1, ev_no, ev_no, ev_rtv fin]]
noncomputable def ev_o45 {α : Type} (cf : Nat → List Value → ev_W → Option ev_R) (fin : Option Value → ev_W → Nat → Option α) : List (List (ev_O α)) := [[ev_ald 1 0, ev_obj 4, ev_no, ev_no, ev_ald 5 0, ev_psh 7 (.int (Int8.ofInt 6).toInt32), ev_no, ev_nwa 9 0 (.int 0), ev_no, ev_dup 10, ev_psh 11 (.int (Int32.ofInt 0)), ev_psh 12 (.int (Int32.ofInt 0)), ev_sti 13 0 (fun x => x), ev_dup 14, ev_psh 15 (.int (Int32.ofInt 1)), ev_psh 16 (.int (Int32.ofInt 1))],
  [ev_sti 17 0 (fun x => x), ev_dup 18, ev_psh 19 (.int (Int32.ofInt 2)), ev_psh 20 (.int (Int32.ofInt 2)), ev_sti 21 0 (fun x => x), ev_dup 22, ev_psh 23 (.int (Int32.ofInt 3)), ev_psh 24 (.int (Int32.ofInt 3)), ev_sti 25 0 (fun x => x), ev_dup 26, ev_psh 27 (.int (Int32.ofInt 4)), ev_psh 28 (.int (Int32.ofInt 4)), ev_sti 29 0 (fun x => x), ev_dup 30, ev_psh 31 (.int (Int32.ofInt 5)), ev_psh 32 (.int (Int32.ofInt 5))],
  [ev_sti 33 0 (fun x => x), ev_ptf 36 18 1 1, ev_no, ev_no, ev_ald 37 0, ev_new 40 4 3 [.int 0, .null, .int 0], ev_no, ev_no, ev_dup 41, ev_ini cf 44 10 1, ev_no, ev_no, ev_ptf 47 18 3 1, ev_no, ev_no, ev_ald 48 0],
  [ev_new 51 4 3 [.int 0, .null, .int 0], ev_no, ev_no, ev_dup 52, ev_ini cf 55 10 1, ev_no, ev_no, ev_ptf 58 18 4 1, ev_no, ev_no, ev_ald 59 0, ev_new 62 4 3 [.int 0, .null, .int 0], ev_no, ev_no, ev_dup 63, ev_ini cf 66 10 1],
  [ev_no, ev_no, ev_ptf 69 18 5 1, ev_no, ev_no, ev_ald 70 0, ev_new 73 4 3 [.int 0, .null, .int 0], ev_no, ev_no, ev_dup 74, ev_ini cf 77 10 1, ev_no, ev_no, ev_ptf 80 18 6 1, ev_no, ev_no],
  [ev_ald 81 0, ev_psh 82 (.int (Int32.ofInt (-1))), ev_ptf 85 18 7 0, ev_no, ev_no, ev_rtv fin]]
noncomputable def ev_o46 {α : Type} (cf : Nat → List Value → ev_W → Option ev_R) (fin : Option Value → ev_W → Nat → Option α) : List (List (ev_O α)) := [[ev_ild 1 0, ev_ild 2 1, ev_cmp 5 14 (fun x y => Nat.blt (ev_sg x) (ev_sg y)), ev_no, ev_no, ev_ild 6 0, ev_ild 7 2, ev_cmp 10 14 (fun x y => Nat.blt (ev_sg y) (ev_sg x)), ev_no, ev_no, ev_psh 11 (.int (Int32.ofInt 1)), ev_jmp 15, ev_no, ev_no, ev_psh 15 (.int (Int32.ofInt 0)), ev_rtz fin]]
noncomputable def ev_o47 {α : Type} (cf : Nat → List Value → ev_W → Option ev_R) (fin : Option Value → ev_W → Nat → Option α) : List (List (ev_O α)) := [[ev_ild 1 0, ev_psh 2 (.int (Int32.ofInt 0)), ev_psh 5 (.int (Int16.ofInt 555).toInt32), ev_no, ev_no, ev_inv cf 8 46 3, ev_no, ev_no, ev_cm0 11 45 (fun x => Nat.beq (ev_bits x) (ev_bits 0)), ev_no, ev_no, ev_ild 12 0, ev_psh 13 (.int (Int32.ofInt 0)), ev_inv cf 16 43 2, ev_no, ev_no],
  [ev_psh 18 (.int (Int8.ofInt 6).toInt32), ev_no, ev_cmp 21 45 (fun x y => Nat.ble (ev_sg y) (ev_sg x)), ev_no, ev_no, ev_ild 22 0, ev_psh 23 (.int (Int32.ofInt 1)), ev_inv cf 26 43 2, ev_no, ev_no, ev_psh 28 (.int (Int8.ofInt 6).toInt32), ev_no, ev_cmp 31 45 (fun x y => Nat.ble (ev_sg y) (ev_sg x)), ev_no, ev_no, ev_ild 32 0],
  [ev_psh 33 (.int (Int32.ofInt 2)), ev_inv cf 36 43 2, ev_no, ev_no, ev_psh 38 (.int (Int8.ofInt 6).toInt32), ev_no, ev_cmp 41 45 (fun x y => Nat.ble (ev_sg y) (ev_sg x)), ev_no, ev_no, ev_psh 42 (.int (Int32.ofInt 1)), ev_jmp 46, ev_no, ev_no, ev_psh 46 (.int (Int32.ofInt 0)), ev_rtz fin]]
noncomputable def ev_o48 {α : Type} (cf : Nat → List Value → ev_W → Option ev_R) (fin : Option Value → ev_W → Nat → Option α) : List (List (ev_O α)) := [[ev_psh 1 (.int (Int32.ofInt 4)), ev_nwa 3 0 (.int 0), ev_no, ev_dup 4, ev_psh 5 (.int (Int32.ofInt 0)), ev_psh 7 (.int (Int8.ofInt 9).toInt32), ev_no, ev_sti 8 0 (fun x => x), ev_dup 9, ev_psh 10 (.int (Int32.ofInt 1)), ev_psh 12 (.int (Int8.ofInt 9).toInt32), ev_no, ev_sti 13 0 (fun x => x), ev_dup 14, ev_psh 15 (.int (Int32.ofInt 2)), ev_psh 17 (.int (Int8.ofInt 9).toInt32)],
  [ev_no, ev_sti 18 0 (fun x => x), ev_dup 19, ev_psh 20 (.int (Int32.ofInt 3)), ev_psh 22 (.int (Int8.ofInt 9).toInt32), ev_no, ev_sti 23 0 (fun x => x), ev_rta fin]]
noncomputable def ev_o49 {α : Type} (cf : Nat → List Value → ev_W → Option ev_R) (fin : Option Value → ev_W → Nat → Option α) : List (List (ev_O α)) := [[ev_psh 1 (.int (Int32.ofInt 0)), ev_ist 2 3, ev_psh 3 (.int (Int32.ofInt 0)), ev_ist 5 4, ev_no, ev_ild 7 4, ev_no, ev_psh 8 (.int (Int32.ofInt 3)), ev_cmp 11 55 (fun x y => Nat.ble (ev_sg y) (ev_sg x)), ev_no, ev_no, ev_ild 12 1, ev_ild 14 4, ev_no, ev_inv cf 17 43 2, ev_no],
  [ev_no, ev_ist 19 5, ev_no, ev_psh 21 (.int (Int8.ofInt 6).toInt32), ev_no, ev_ild 22 3, ev_bin 23 (fun x y => x * y), ev_ild 25 5, ev_no, ev_psh 27 (.int (Int8.ofInt 6).toInt32), ev_no, ev_cmp 30 40 (fun x y => Nat.ble (ev_sg y) (ev_sg x)), ev_no, ev_no, ev_ald 31 0, ev_get 34 18 1],
  [ev_no, ev_no, ev_ild 36 5, ev_no, ev_ldi 37 0, ev_jmp 47, ev_no, ev_no, ev_ald 41 2, ev_ild 43 5, ev_no, ev_psh 45 (.int (Int8.ofInt 6).toInt32), ev_no, ev_bin 46 (fun x y => x - y), ev_ldi 47 0, ev_bin 48 (fun x y => x + y)],
  [ev_ist 49 3, ev_inc 52 4 (Int32.ofInt 1), ev_no, ev_no, ev_jmp 5, ev_no, ev_no, ev_ild 56 3, ev_rti fin]]
noncomputable def ev_o50 {α : Type} (cf : Nat → List Value → ev_W → Option ev_R) (fin : Option Value → ev_W → Nat → Option α) : List (List (ev_O α)) := [[ev_ald 1 0, ev_ild 2 1, ev_inv cf 5 48 0, ev_no, ev_no, ev_inr cf 8 49 3 18, ev_no, ev_no, ev_rti fin]]
noncomputable def ev_o51 {α : Type} (cf : Nat → List Value → ev_W → Option ev_R) (fin : Option Value → ev_W → Nat → Option α) : List (List (ev_O α)) := [[ev_ald 1 0, ev_psh 2 (.int (Int32.ofInt 0)), ev_ptf 5 18 0 0, ev_no, ev_no, ev_ild 6 1, ev_inv cf 9 47 1, ev_no, ev_no, ev_cm0 12 22 (fun x => Nat.beq (ev_bits x) (ev_bits 0)), ev_no, ev_no, ev_ild 13 2, ev_psh 14 (.int (Int32.ofInt 1)), ev_psh 16 (.int (Int8.ofInt 9).toInt32), ev_no],
  [ev_inv cf 19 46 3, ev_no, ev_no, ev_cm0 22 28 (fun x => !Nat.beq (ev_bits x) (ev_bits 0)), ev_no, ev_no, ev_ald 23 0, ev_psh 24 (.int (Int32.ofInt 1)), ev_no, ev_no, ev_no, ev_rti fin, ev_ald 29 0, ev_get 32 18 4, ev_no, ev_no],
  [ev_inr cf 35 12 1 4, ev_no, ev_no, ev_psh 37 (.int (Int8.ofInt 12).toInt32), ev_no, ev_cmp 40 46 (fun x y => !Nat.beq (ev_bits x) (ev_bits y)), ev_no, ev_no, ev_ald 41 0, ev_psh 42 (.int (Int32.ofInt 2)), ev_no, ev_no, ev_no, ev_rti fin, ev_ald 47 0, ev_get 50 18 4],
  [ev_no, ev_no, ev_psh 51 (.int (Int32.ofInt 2)), ev_nwa 53 0 (.int 0), ev_no, ev_dup 54, ev_psh 55 (.int (Int32.ofInt 0)), ev_ild 56 1, ev_sti 57 0 (fun x => x), ev_dup 58, ev_psh 59 (.int (Int32.ofInt 1)), ev_ild 60 2, ev_sti 61 0 (fun x => x), ev_inr cf 64 6 2 4, ev_no, ev_no],
  [ev_drop 65, ev_ald 66 0, ev_get 69 18 4, ev_no, ev_no, ev_inr cf 72 12 1 4, ev_no, ev_no, ev_rti fin]]
noncomputable def ev_o52 {α : Type} (cf : Nat → List Value → ev_W → Option ev_R) (fin : Option Value → ev_W → Nat → Option α) : List (List (ev_O α)) := [[ev_ald 1 0, ev_get 4 18 0, ev_no, ev_no, ev_rti fin]]
noncomputable def ev_o53 {α : Type} (cf : Nat → List Value → ev_W → Option ev_R) (fin : Option Value → ev_W → Nat → Option α) : List (List (ev_O α)) := [[ev_psh 3 (.int (Int16.ofInt 216).toInt32), ev_no, ev_no, ev_nwa 5 1 (.int 0), ev_no, ev_ast 7 4, ev_no, ev_ald 8 1, ev_inr cf 11 11 1 4, ev_no, ev_no, ev_ast 13 5, ev_no, ev_ald 15 5, ev_no, ev_inr cf 20 2 1 3],
  [ev_no, ev_no, ev_no, ev_no, ev_cm0 23 69 (fun x => Nat.beq (ev_bits x) (ev_bits 0)), ev_no, ev_no, ev_ald 25 5, ev_no, ev_inr cf 30 4 1 3, ev_no, ev_no, ev_no, ev_no, ev_cst 33 20, ev_no],
  [ev_no, ev_ast 35 6, ev_no, ev_ald 37 6, ev_no, ev_ild 38 2, ev_inr cf 41 37 2 17, ev_no, ev_no, ev_cm0 44 66 (fun x => Nat.beq (ev_bits x) (ev_bits 0)), ev_no, ev_no, ev_ald 46 6, ev_no, ev_get 49 17 1, ev_no],
  [ev_no, ev_ild 50 3, ev_cmp 53 66 (fun x y => Nat.blt (ev_sg x) (ev_sg y)), ev_no, ev_no, ev_ald 55 4, ev_no, ev_ald 56 0, ev_ald 58 6, ev_no, ev_get 61 17 0, ev_no, ev_no, ev_inr cf 64 50 2 18, ev_no, ev_no],
  [ev_psh 65 (.int (Int32.ofInt 1)), ev_sti 66 1 (fun x => vp_nar .boolean x), ev_jmp 13, ev_no, ev_no, ev_ald 71 4, ev_no, ev_rta fin]]
noncomputable def ev_o54 {α : Type} (cf : Nat → List Value → ev_W → Option ev_R) (fin : Option Value → ev_W → Nat → Option α) : List (List (ev_O α)) := [[ev_ald 1 0, ev_psh 2 (.int (Int32.ofInt 0)), ev_ptf 5 18 0 0, ev_no, ev_no, ev_ild 6 1, ev_inv cf 9 47 1, ev_no, ev_no, ev_cm0 12 18 (fun x => !Nat.beq (ev_bits x) (ev_bits 0)), ev_no, ev_no, ev_ald 13 0, ev_psh 14 (.int (Int32.ofInt 1)), ev_no, ev_no],
  [ev_no, ev_rti fin, ev_ald 19 0, ev_get 22 18 4, ev_no, ev_no, ev_inr cf 25 12 1 4, ev_no, ev_no, ev_psh 27 (.int (Int8.ofInt 12).toInt32), ev_no, ev_cmp 30 36 (fun x y => !Nat.beq (ev_bits x) (ev_bits y)), ev_no, ev_no, ev_ald 31 0, ev_psh 32 (.int (Int32.ofInt 2))],
  [ev_no, ev_no, ev_no, ev_rti fin, ev_ald 37 0, ev_get 40 18 4, ev_no, ev_no, ev_psh 41 (.int (Int32.ofInt 2)), ev_nwa 43 0 (.int 0), ev_no, ev_dup 44, ev_psh 45 (.int (Int32.ofInt 0)), ev_ild 46 1, ev_sti 47 0 (fun x => x), ev_dup 48],
  [ev_psh 49 (.int (Int32.ofInt 1)), ev_psh 50 (.int (Int32.ofInt 0)), ev_sti 51 0 (fun x => x), ev_inr cf 54 6 2 4, ev_no, ev_no, ev_drop 55, ev_ald 56 0, ev_get 59 18 4, ev_no, ev_no, ev_inr cf 62 12 1 4, ev_no, ev_no, ev_rti fin]]
noncomputable def ev_o55 {α : Type} (cf : Nat → List Value → ev_W → Option ev_R) (fin : Option Value → ev_W → Nat → Option α) : List (List (ev_O α)) := [[ev_ald 1 0, ev_obj 4, ev_no, ev_no, ev_ald 5 0, ev_psh 7 (.int (Int8.ofInt 10).toInt32), ev_no, ev_nwa 9 0 (.int 0), ev_no, ev_ptf 12 6 0 1, ev_no, ev_no, ev_rtv fin]]
noncomputable def ev_o56 {α : Type} (cf : Nat → List Value → ev_W → Option ev_R) (fin : Option Value → ev_W → Nat → Option α) : List (List (ev_O α)) := [[ev_ald 1 0, ev_obj 4, ev_no, ev_no, ev_ald 5 0, ev_psh 8 (.int (Int16.ofInt 556).toInt32), ev_no, ev_no, ev_nwa 10 0 (.int 0), ev_no, ev_ptf 13 7 0 1, ev_no, ev_no, ev_rtv fin]]
noncomputable def ev_o57 {α : Type} (cf : Nat → List Value → ev_W → Option ev_R) (fin : Option Value → ev_W → Nat → Option α) : List (List (ev_O α)) := [[ev_ald 1 0, ev_obj 4, ev_no, ev_no, ev_ald 5 0, ev_psh 8 (.int (Int16.ofInt 648).toInt32), ev_no, ev_no, ev_nwa 10 0 (.int 0), ev_no, ev_ptf 13 8 0 1, ev_no, ev_no, ev_ald 14 0, ev_psh 17 (.int (Int16.ofInt 648).toInt32), ev_no],
  [ev_no, ev_nwa 19 0 (.int 0), ev_no, ev_ptf 22 8 1 1, ev_no, ev_no, ev_ald 23 0, ev_psh 26 (.int (Int16.ofInt 648).toInt32), ev_no, ev_no, ev_nwa 28 0 (.int 0), ev_no, ev_ptf 31 8 2 1, ev_no, ev_no, ev_ald 32 0],
  [ev_psh 35 (.int (Int16.ofInt 648).toInt32), ev_no, ev_no, ev_nwa 37 0 (.int 0), ev_no, ev_ptf 40 8 3 1, ev_no, ev_no, ev_ald 41 0, ev_new 44 6 2 [.null, .int 0], ev_no, ev_no, ev_dup 45, ev_ini cf 48 55 1, ev_no, ev_no],
  [ev_ptf 51 8 4 1, ev_no, ev_no, ev_rtv fin]]
noncomputable def ev_o58 {α : Type} (cf : Nat → List Value → ev_W → Option ev_R) (fin : Option Value → ev_W → Nat → Option α) : List (List (ev_O α)) := [[ev_ald 1 0, ev_get 4 9 0, ev_no, ev_no, ev_ild 5 1, ev_psh 6 (.int (Int32.ofInt 0)), ev_inv cf 9 22 3, ev_no, ev_no, ev_rti fin]]
noncomputable def ev_o59 {α : Type} (cf : Nat → List Value → ev_W → Option ev_R) (fin : Option Value → ev_W → Nat → Option α) : List (List (ev_O α)) := [[ev_ald 1 0, ev_ild 2 1, ev_psh 4 (.int (Int8.ofInt 100).toInt32), ev_no, ev_div 5 (fun x y => x / y), ev_inr cf 8 58 2 9, ev_no, ev_no, ev_psh 10 (.int (Int8.ofInt 100).toInt32), ev_no, ev_bin 11 (fun x y => x * y), ev_ald 12 0, ev_ild 13 1, ev_psh 15 (.int (Int8.ofInt 10).toInt32), ev_no, ev_div 16 (fun x y => x / y)],
  [ev_psh 18 (.int (Int8.ofInt 10).toInt32), ev_no, ev_div 19 (fun x y => x - x / y * y), ev_inr cf 22 58 2 9, ev_no, ev_no, ev_psh 24 (.int (Int8.ofInt 10).toInt32), ev_no, ev_bin 25 (fun x y => x * y), ev_bin 26 (fun x y => x + y), ev_ald 27 0, ev_ild 28 1, ev_psh 30 (.int (Int8.ofInt 10).toInt32), ev_no, ev_div 31 (fun x y => x - x / y * y), ev_inr cf 34 58 2 9],
  [ev_no, ev_no, ev_bin 35 (fun x y => x + y), ev_rti fin]]
noncomputable def ev_o60 {α : Type} (cf : Nat → List Value → ev_W → Option ev_R) (fin : Option Value → ev_W → Nat → Option α) : List (List (ev_O α)) := [[ev_ald 1 0, ev_obj 4, ev_no, ev_no, ev_ald 5 0, ev_psh 7 (.int (Int8.ofInt 6).toInt32), ev_no, ev_nwa 9 0 (.int 0), ev_no, ev_ptf 12 9 0 1, ev_no, ev_no, ev_ald 13 0, ev_inr cf 16 61 1 9, ev_no, ev_no],
  [ev_rtv fin]]
noncomputable def ev_o61 {α : Type} (cf : Nat → List Value → ev_W → Option ev_R) (fin : Option Value → ev_W → Nat → Option α) : List (List (ev_O α)) := [[ev_psh 1 (.int (Int32.ofInt 0)), ev_ist 2 1, ev_ild 3 1, ev_ald 4 0, ev_get 7 9 0, ev_no, ev_no, ev_aln 8, ev_cmp 11 24 (fun x y => Nat.ble (ev_sg y) (ev_sg x)), ev_no, ev_no, ev_ald 12 0, ev_get 15 9 0, ev_no, ev_no, ev_ild 16 1],
  [ev_ild 17 1, ev_sti 18 0 (fun x => x), ev_inc 21 1 (Int32.ofInt 1), ev_no, ev_no, ev_jmp 2, ev_no, ev_no, ev_rtv fin]]
noncomputable def ev_o62 {α : Type} (cf : Nat → List Value → ev_W → Option ev_R) (fin : Option Value → ev_W → Nat → Option α) : List (List (ev_O α)) := [[ev_ald 1 0, ev_obj 4, ev_no, ev_no, ev_ald 5 0, ev_psh 8 (.int (Int16.ofInt 556).toInt32), ev_no, ev_no, ev_nwa 10 0 (.int 0), ev_no, ev_ptf 13 10 0 1, ev_no, ev_no, ev_ald 14 0, ev_psh 17 (.int (Int16.ofInt 556).toInt32), ev_no],
  [ev_no, ev_nwa 19 0 (.int 0), ev_no, ev_ptf 22 10 1 1, ev_no, ev_no, ev_ald 23 0, ev_psh 26 (.int (Int16.ofInt 556).toInt32), ev_no, ev_no, ev_nwa 28 0 (.int 0), ev_no, ev_ptf 31 10 2 1, ev_no, ev_no, ev_rtv fin]]
noncomputable def ev_o63 {α : Type} (cf : Nat → List Value → ev_W → Option ev_R) (fin : Option Value → ev_W → Nat → Option α) : List (List (ev_O α)) := [[ev_ald 1 0, ev_obj 4, ev_no, ev_no, ev_ald 5 0, ev_psh 6 (.int (Int32.ofInt 3)), ev_nwa 8 0 (.int 0), ev_no, ev_ptf 11 11 0 1, ev_no, ev_no, ev_ald 12 0, ev_psh 13 (.int (Int32.ofInt 3)), ev_nwa 15 0 (.int 0), ev_no, ev_ptf 18 11 1 1],
  [ev_no, ev_no, ev_ald 19 0, ev_psh 22 (.int (Int16.ofInt 1296).toInt32), ev_no, ev_no, ev_nwa 24 0 (.int 0), ev_no, ev_ptf 27 11 2 1, ev_no, ev_no, ev_ald 28 0, ev_new 31 6 2 [.null, .int 0], ev_no, ev_no, ev_dup 32],
  [ev_ini cf 35 55 1, ev_no, ev_no, ev_ptf 38 11 3 1, ev_no, ev_no, ev_ald 39 0, ev_new 42 6 2 [.null, .int 0], ev_no, ev_no, ev_dup 43, ev_ini cf 46 55 1, ev_no, ev_no, ev_ptf 49 11 4 1, ev_no],
  [ev_no, ev_ald 50 0, ev_psh 51 (.int (Int32.ofInt (-1))), ev_ptf 54 11 7 0, ev_no, ev_no, ev_rtv fin]]
noncomputable def ev_o64 {α : Type} (cf : Nat → List Value → ev_W → Option ev_R) (fin : Option Value → ev_W → Nat → Option α) : List (List (ev_O α)) := [[ev_ald 1 0, ev_ild 2 1, ev_inr cf 5 70 2 12, ev_no, ev_no, ev_ist 7 5, ev_no, ev_ild 9 5, ev_no, ev_psh 10 (.int (Int32.ofInt (-1))), ev_cmp 13 37 (fun x y => Nat.beq (ev_bits x) (ev_bits y)), ev_no, ev_no, ev_ald 14 0, ev_get 17 12 2, ev_no],
  [ev_no, ev_ild 19 5, ev_no, ev_ild 20 3, ev_ald 21 0, ev_get 24 12 2, ev_no, ev_no, ev_ild 26 5, ev_no, ev_psh 27 (.int (Int32.ofInt 0)), ev_inv cf 30 22 3, ev_no, ev_no, ev_no, ev_no],
  [ev_no, ev_inv cf 36 31 3, ev_no, ev_no, ev_rtv fin, ev_ald 38 0, ev_get 41 12 0, ev_no, ev_no, ev_ald 42 0, ev_get 45 12 5, ev_no, ev_no, ev_ild 46 1, ev_inv cf 49 31 3, ev_no],
  [ev_no, ev_ald 50 0, ev_get 53 12 1, ev_no, ev_no, ev_ald 54 0, ev_get 57 12 5, ev_no, ev_no, ev_ild 58 2, ev_inv cf 61 31 3, ev_no, ev_no, ev_ald 62 0, ev_get 65 12 2, ev_no],
  [ev_no, ev_ald 66 0, ev_get 69 12 5, ev_no, ev_no, ev_ild 70 3, ev_inv cf 73 31 3, ev_no, ev_no, ev_ald 74 0, ev_get 77 12 3, ev_no, ev_no, ev_ald 78 0, ev_get 81 12 5, ev_no],
  [ev_no, ev_ild 83 4, ev_no, ev_inv cf 86 31 3, ev_no, ev_no, ev_ald 87 0, ev_get 90 12 4, ev_no, ev_no, ev_ald 91 0, ev_get 94 12 5, ev_no, ev_no, ev_psh 95 (.int (Int32.ofInt (-1))), ev_inv cf 98 31 3],
  [ev_no, ev_no, ev_ald 99 0, ev_dup 100, ev_get 103 12 5, ev_no, ev_no, ev_psh 104 (.int (Int32.ofInt 1)), ev_bin 105 (fun x y => x + y), ev_ptf 108 12 5 0, ev_no, ev_no, ev_rtv fin]]
noncomputable def ev_o65 {α : Type} (cf : Nat → List Value → ev_W → Option ev_R) (fin : Option Value → ev_W → Nat → Option α) : List (List (ev_O α)) := [[ev_ald 1 0, ev_ald 2 1, ev_get 5 12 5, ev_no, ev_no, ev_ptf 8 12 5 0, ev_no, ev_no, ev_ald 9 1, ev_get 12 12 0, ev_no, ev_no, ev_ald 13 0, ev_get 16 12 0, ev_no, ev_no],
  [ev_ald 17 0, ev_get 20 12 5, ev_no, ev_no, ev_inv cf 23 27 3, ev_no, ev_no, ev_ald 24 1, ev_get 27 12 1, ev_no, ev_no, ev_ald 28 0, ev_get 31 12 1, ev_no, ev_no, ev_ald 32 0],
  [ev_get 35 12 5, ev_no, ev_no, ev_inv cf 38 27 3, ev_no, ev_no, ev_ald 39 1, ev_get 42 12 2, ev_no, ev_no, ev_ald 43 0, ev_get 46 12 2, ev_no, ev_no, ev_ald 47 0, ev_get 50 12 5],
  [ev_no, ev_no, ev_inv cf 53 27 3, ev_no, ev_no, ev_ald 54 1, ev_get 57 12 3, ev_no, ev_no, ev_ald 58 0, ev_get 61 12 3, ev_no, ev_no, ev_ald 62 0, ev_get 65 12 5, ev_no],
  [ev_no, ev_inv cf 68 27 3, ev_no, ev_no, ev_ald 69 1, ev_get 72 12 4, ev_no, ev_no, ev_ald 73 0, ev_get 76 12 4, ev_no, ev_no, ev_ald 77 0, ev_get 80 12 5, ev_no, ev_no],
  [ev_inv cf 83 27 3, ev_no, ev_no, ev_rtv fin]]
noncomputable def ev_o66 {α : Type} (cf : Nat → List Value → ev_W → Option ev_R) (fin : Option Value → ev_W → Nat → Option α) : List (List (ev_O α)) := [[ev_psh 1 (.int (Int32.ofInt 0)), ev_ist 2 3, ev_ild 3 3, ev_ald 4 0, ev_get 7 12 5, ev_no, ev_no, ev_cmp 10 46 (fun x y => Nat.ble (ev_sg y) (ev_sg x)), ev_no, ev_no, ev_ald 11 0, ev_ild 12 3, ev_inr cf 15 69 2 12, ev_no, ev_no, ev_cm0 18 40 (fun x => Nat.beq (ev_bits x) (ev_bits 0))],
  [ev_no, ev_no, ev_ald 19 0, ev_get 22 12 1, ev_no, ev_no, ev_ild 23 3, ev_psh 24 (.int (Int32.ofInt (-1))), ev_inv cf 27 22 3, ev_no, ev_no, ev_ild 28 1, ev_cmp 31 40 (fun x y => !Nat.beq (ev_bits x) (ev_bits y)), ev_no, ev_no, ev_ald 32 0],
  [ev_get 35 12 4, ev_no, ev_no, ev_ild 36 3, ev_ild 37 2, ev_inv cf 40 31 3, ev_no, ev_no, ev_inc 43 3 (Int32.ofInt 1), ev_no, ev_no, ev_jmp 2, ev_no, ev_no, ev_rtv fin]]
noncomputable def ev_o67 {α : Type} (cf : Nat → List Value → ev_W → Option ev_R) (fin : Option Value → ev_W → Nat → Option α) : List (List (ev_O α)) := [[ev_ald 1 0, ev_get 4 12 3, ev_no, ev_no, ev_ild 5 1, ev_psh 6 (.int (Int32.ofInt 0)), ev_inv cf 9 22 3, ev_no, ev_no, ev_ild 10 2, ev_cmp 13 38 (fun x y => Nat.blt (ev_sg y) (ev_sg x)), ev_no, ev_no, ev_ald 14 0, ev_ild 15 1, ev_inr cf 18 69 2 12],
  [ev_no, ev_no, ev_cm0 21 34 (fun x => !Nat.beq (ev_bits x) (ev_bits 0)), ev_no, ev_no, ev_ild 22 2, ev_ald 23 0, ev_get 26 12 4, ev_no, ev_no, ev_ild 27 1, ev_psh 28 (.int (Int32.ofInt 0)), ev_inv cf 31 22 3, ev_no, ev_no, ev_cmp 34 38 (fun x y => Nat.ble (ev_sg y) (ev_sg x))],
  [ev_no, ev_no, ev_psh 35 (.int (Int32.ofInt 1)), ev_jmp 39, ev_no, ev_no, ev_psh 39 (.int (Int32.ofInt 0)), ev_rtz fin]]
noncomputable def ev_o68 {α : Type} (cf : Nat → List Value → ev_W → Option ev_R) (fin : Option Value → ev_W → Nat → Option α) : List (List (ev_O α)) := [[ev_ald 1 0, ev_obj 4, ev_no, ev_no, ev_ald 5 0, ev_psh 7 (.int (Int8.ofInt 72).toInt32), ev_no, ev_nwa 9 0 (.int 0), ev_no, ev_ptf 12 12 0 1, ev_no, ev_no, ev_ald 13 0, ev_psh 15 (.int (Int8.ofInt 72).toInt32), ev_no, ev_nwa 17 0 (.int 0)],
  [ev_no, ev_ptf 20 12 1 1, ev_no, ev_no, ev_ald 21 0, ev_psh 23 (.int (Int8.ofInt 72).toInt32), ev_no, ev_nwa 25 0 (.int 0), ev_no, ev_ptf 28 12 2 1, ev_no, ev_no, ev_ald 29 0, ev_psh 31 (.int (Int8.ofInt 72).toInt32), ev_no, ev_nwa 33 0 (.int 0)],
  [ev_no, ev_ptf 36 12 3 1, ev_no, ev_no, ev_ald 37 0, ev_psh 39 (.int (Int8.ofInt 72).toInt32), ev_no, ev_nwa 41 0 (.int 0), ev_no, ev_ptf 44 12 4 1, ev_no, ev_no, ev_rtv fin]]
noncomputable def ev_o69 {α : Type} (cf : Nat → List Value → ev_W → Option ev_R) (fin : Option Value → ev_W → Nat → Option α) : List (List (ev_O α)) := [[ev_ald 1 0, ev_get 4 12 4, ev_no, ev_no, ev_ild 5 1, ev_psh 6 (.int (Int32.ofInt 0)), ev_inv cf 9 22 3, ev_no, ev_no, ev_psh 10 (.int (Int32.ofInt (-1))), ev_cmp 13 17 (fun x y => !Nat.beq (ev_bits x) (ev_bits y)), ev_no, ev_no, ev_psh 14 (.int (Int32.ofInt 1)), ev_jmp 18, ev_no],
  [ev_no, ev_psh 18 (.int (Int32.ofInt 0)), ev_rtz fin]]
noncomputable def ev_o70 {α : Type} (cf : Nat → List Value → ev_W → Option ev_R) (fin : Option Value → ev_W → Nat → Option α) : List (List (ev_O α)) := [[ev_psh 1 (.int (Int32.ofInt 0)), ev_ist 2 2, ev_ild 3 2, ev_ald 4 0, ev_get 7 12 5, ev_no, ev_no, ev_cmp 10 39 (fun x y => Nat.ble (ev_sg y) (ev_sg x)), ev_no, ev_no, ev_ald 11 0, ev_ild 12 2, ev_inr cf 15 69 2 12, ev_no, ev_no, ev_cm0 18 33 (fun x => Nat.beq (ev_bits x) (ev_bits 0))],
  [ev_no, ev_no, ev_ald 19 0, ev_get 22 12 0, ev_no, ev_no, ev_ild 23 2, ev_psh 24 (.int (Int32.ofInt (-1))), ev_inv cf 27 22 3, ev_no, ev_no, ev_ild 28 1, ev_cmp 31 33 (fun x y => !Nat.beq (ev_bits x) (ev_bits y)), ev_no, ev_no, ev_ild 32 2],
  [ev_rti fin, ev_inc 36 2 (Int32.ofInt 1), ev_no, ev_no, ev_jmp 2, ev_no, ev_no, ev_psh 40 (.int (Int32.ofInt (-1))), ev_rti fin]]
noncomputable def ev_o71 {α : Type} (cf : Nat → List Value → ev_W → Option ev_R) (fin : Option Value → ev_W → Nat → Option α) : List (List (ev_O α)) := [[ev_psh 1 (.int (Int32.ofInt 0)), ev_ist 3 4, ev_no, ev_ild 5 4, ev_no, ev_ald 6 1, ev_get 9 5 2, ev_no, ev_no, ev_cmp 12 76 (fun x y => Nat.ble (ev_sg y) (ev_sg x)), ev_no, ev_no, ev_ald 13 1, ev_get 16 5 0, ev_no, ev_no],
  [ev_ild 18 4, ev_no, ev_psh 19 (.int (Int32.ofInt 0)), ev_inv cf 22 22 3, ev_no, ev_no, ev_ist 24 5, ev_no, ev_ald 25 1, ev_get 28 5 1, ev_no, ev_no, ev_ild 30 4, ev_no, ev_psh 31 (.int (Int32.ofInt 0)), ev_inv cf 34 22 3],
  [ev_no, ev_no, ev_ist 36 6, ev_no, ev_ild 38 6, ev_no, ev_cm0 41 55 (fun x => !Nat.beq (ev_bits x) (ev_bits 0)), ev_no, ev_no, ev_ald 42 0, ev_ald 43 3, ev_ild 45 5, ev_no, ev_inr cf 48 59 2 9, ev_no, ev_no],
  [ev_ild 49 2, ev_inr cf 52 66 3 12, ev_no, ev_no, ev_jmp 70, ev_no, ev_no, ev_ald 56 0, ev_ild 58 5, ev_no, ev_ald 59 3, ev_ild 61 5, ev_no, ev_inr cf 64 59 2 9, ev_no, ev_no],
  [ev_ild 66 6, ev_no, ev_ild 67 2, ev_inr cf 70 64 5 12, ev_no, ev_no, ev_inc 73 4 (Int32.ofInt 1), ev_no, ev_no, ev_jmp 3, ev_no, ev_no, ev_rtv fin]]
noncomputable def ev_o72 {α : Type} (cf : Nat → List Value → ev_W → Option ev_R) (fin : Option Value → ev_W → Nat → Option α) : List (List (ev_O α)) := [[ev_ald 1 0, ev_obj 4, ev_no, ev_no, ev_ald 5 0, ev_psh 6 (.int (Int32.ofInt 3)), ev_nwa 8 0 (.int 0), ev_no, ev_ptf 11 13 0 1, ev_no, ev_no, ev_ald 12 0, ev_psh 13 (.int (Int32.ofInt 3)), ev_nwa 15 0 (.int 0), ev_no, ev_ptf 18 13 1 1],
  [ev_no, ev_no, ev_ald 19 0, ev_psh 20 (.int (Int32.ofInt 3)), ev_nwa 22 0 (.int 0), ev_no, ev_ptf 25 13 2 1, ev_no, ev_no, ev_rtv fin]]
noncomputable def ev_o73 {α : Type} (cf : Nat → List Value → ev_W → Option ev_R) (fin : Option Value → ev_W → Nat → Option α) : List (List (ev_O α)) := [[ev_psh 1 (.int (Int32.ofInt 0)), ev_ist 2 2, ev_psh 3 (.int (Int32.ofInt 0)), ev_ist 4 3, ev_ild 5 3, ev_psh 7 (.int (Int8.ofInt 6).toInt32), ev_no, ev_cmp 10 28 (fun x y => Nat.ble (ev_sg y) (ev_sg x)), ev_no, ev_no, ev_ald 11 0, ev_ild 12 3, ev_ald 13 1, ev_inr cf 16 76 3 14, ev_no, ev_no],
  [ev_cm0 19 22 (fun x => Nat.beq (ev_bits x) (ev_bits 0)), ev_no, ev_no, ev_inc 22 2 (Int32.ofInt 1), ev_no, ev_no, ev_inc 25 3 (Int32.ofInt 1), ev_no, ev_no, ev_jmp 4, ev_no, ev_no, ev_ild 29 2, ev_rti fin]]
noncomputable def ev_o74 {α : Type} (cf : Nat → List Value → ev_W → Option ev_R) (fin : Option Value → ev_W → Nat → Option α) : List (List (ev_O α)) := [[ev_ald 1 0, ev_get 4 14 0, ev_no, ev_no, ev_psh 5 (.int (Int32.ofInt 0)), ev_inv cf 8 28 2, ev_no, ev_no, ev_psh 9 (.int (Int32.ofInt 0)), ev_ist 10 3, ev_ild 11 3, ev_ald 12 1, ev_get 15 12 5, ev_no, ev_no, ev_cmp 18 78 (fun x y => Nat.ble (ev_sg y) (ev_sg x))],
  [ev_no, ev_no, ev_ald 19 1, ev_ild 20 3, ev_ild 21 2, ev_inr cf 24 67 3 12, ev_no, ev_no, ev_cm0 27 72 (fun x => Nat.beq (ev_bits x) (ev_bits 0)), ev_no, ev_no, ev_ald 28 1, ev_get 31 12 1, ev_no, ev_no, ev_ild 32 3],
  [ev_psh 33 (.int (Int32.ofInt 0)), ev_inv cf 36 22 3, ev_no, ev_no, ev_ist 38 4, ev_no, ev_ild 40 4, ev_no, ev_psh 42 (.int (Int8.ofInt 10).toInt32), ev_no, ev_div 43 (fun x y => x / y), ev_ist 45 5, ev_no, ev_ald 46 0, ev_get 49 14 0, ev_no],
  [ev_no, ev_ild 51 5, ev_no, ev_ald 52 0, ev_get 55 14 0, ev_no, ev_no, ev_ild 57 5, ev_no, ev_psh 58 (.int (Int32.ofInt 0)), ev_inv cf 61 22 3, ev_no, ev_no, ev_psh 62 (.int (Int32.ofInt 1)), ev_ild 64 4, ev_no],
  [ev_psh 66 (.int (Int8.ofInt 10).toInt32), ev_no, ev_div 67 (fun x y => x - x / y * y), ev_bin 68 (fun x y => x <<< (y &&& 31)), ev_bin 69 (fun x y => x ||| y), ev_inv cf 72 31 3, ev_no, ev_no, ev_inc 75 3 (Int32.ofInt 1), ev_no, ev_no, ev_jmp 10, ev_no, ev_no, ev_rtv fin]]
noncomputable def ev_o75 {α : Type} (cf : Nat → List Value → ev_W → Option ev_R) (fin : Option Value → ev_W → Nat → Option α) : List (List (ev_O α)) := [[ev_ald 1 0, ev_obj 4, ev_no, ev_no, ev_ald 5 0, ev_psh 7 (.int (Int8.ofInt 56).toInt32), ev_no, ev_nwa 9 0 (.int 0), ev_no, ev_ptf 12 14 0 1, ev_no, ev_no, ev_rtv fin]]
noncomputable def ev_o76 {α : Type} (cf : Nat → List Value → ev_W → Option ev_R) (fin : Option Value → ev_W → Nat → Option α) : List (List (ev_O α)) := [[ev_psh 1 (.int (Int32.ofInt 0)), ev_ist 2 3, ev_ild 3 3, ev_psh 5 (.int (Int8.ofInt 6).toInt32), ev_no, ev_cmp 8 56 (fun x y => Nat.ble (ev_sg y) (ev_sg x)), ev_no, ev_no, ev_ild 9 1, ev_psh 11 (.int (Int8.ofInt 10).toInt32), ev_no, ev_bin 12 (fun x y => x * y), ev_ald 13 2, ev_ild 14 3, ev_inr cf 17 58 2 9, ev_no],
  [ev_no, ev_bin 18 (fun x y => x + y), ev_ist 20 4, ev_no, ev_ald 21 2, ev_get 24 9 1, ev_no, ev_no, ev_ild 25 3, ev_inv cf 28 30 2, ev_no, ev_no, ev_cm0 31 50 (fun x => Nat.beq (ev_bits x) (ev_bits 0)), ev_no, ev_no, ev_ald 32 0],
  [ev_get 35 14 0, ev_no, ev_no, ev_ild 37 4, ev_no, ev_psh 38 (.int (Int32.ofInt 0)), ev_inv cf 41 22 3, ev_no, ev_no, ev_no, ev_no, ev_no, ev_psh 45 (.int (Int32.ofInt 1)), ev_cmp 48 50 (fun x y => Nat.ble (ev_sg x) (ev_sg y)), ev_no, ev_no],
  [ev_psh 49 (.int (Int32.ofInt 1)), ev_rtz fin, ev_inc 53 3 (Int32.ofInt 1), ev_no, ev_no, ev_jmp 2, ev_no, ev_no, ev_psh 57 (.int (Int32.ofInt 0)), ev_rtz fin]]
noncomputable def ev_tabs (cf : Nat → List Value → ev_W → Option ev_R) : List ev_Y := [(2, [], []),
  (1, [], ev_o1 cf (fun r w n => some (r, w, n))),
  (1, [], ev_o2 cf (fun r w n => some (r, w, n))),
  (2, [], ev_o3 cf (fun r w n => some (r, w, n))),
  (1, [.retAddr 0, .retAddr 0], ev_o4 cf (fun r w n => some (r, w, n))),
  (4, [], ev_o5 cf (fun r w n => some (r, w, n))),
  (2, [], ev_o6 cf (fun r w n => some (r, w, n))),
  (1, [.retAddr 0, .retAddr 0, .retAddr 0], ev_o7 cf (fun r w n => some (r, w, n))),
  (2, [.retAddr 0, .retAddr 0], ev_o8 cf (fun r w n => some (r, w, n))),
  (1, [], ev_o9 cf (fun r w n => some (r, w, n))),
  (1, [], ev_o10 cf (fun r w n => some (r, w, n))),
  (1, [], ev_o11 cf (fun r w n => some (r, w, n))),
  (1, [], ev_o12 cf (fun r w n => some (r, w, n))),
  (1, [], ev_o13 cf (fun r w n => some (r, w, n))),
  (1, [], ev_o14 cf (fun r w n => some (r, w, n))),
  (2, [.retAddr 0], ev_o15 cf (fun r w n => some (r, w, n))),
  (1, [.retAddr 0, .retAddr 0, .retAddr 0, .retAddr 0, .retAddr 0, .retAddr 0], []),
  (4, [.retAddr 0], ev_o17 cf (fun r w n => some (r, w, n))),
  (3, [.retAddr 0], ev_o18 cf (fun r w n => some (r, w, n))),
  (3, [], ev_o19 cf (fun r w n => some (r, w, n))),
  (1, [.retAddr 0], ev_o20 cf (fun r w n => some (r, w, n))),
  (1, [], ev_o21 cf (fun r w n => some (r, w, n))),
  (3, [], ev_o22 cf (fun r w n => some (r, w, n))),
  (1, [], ev_o23 cf (fun r w n => some (r, w, n))),
  (1, [], ev_o24 cf (fun r w n => some (r, w, n))),
  (1, [], ev_o25 cf (fun r w n => some (r, w, n))),
  (1, [], ev_o26 cf (fun r w n => some (r, w, n))),
  (3, [.retAddr 0], ev_o27 cf (fun r w n => some (r, w, n))),
  (2, [.retAddr 0], ev_o28 cf (fun r w n => some (r, w, n))),
  (1, [], ev_o29 cf (fun r w n => some (r, w, n))),
  (2, [], ev_o30 cf (fun r w n => some (r, w, n))),
  (3, [], ev_o31 cf (fun r w n => some (r, w, n))),
  (3, [], ev_o32 cf (fun r w n => some (r, w, n))),
  (1, [], ev_o33 cf (fun r w n => some (r, w, n))),
  (1, [], ev_o34 cf (fun r w n => some (r, w, n))),
  (2, [], ev_o35 cf (fun r w n => some (r, w, n))),
  (1, [], ev_o36 cf (fun r w n => some (r, w, n))),
  (2, [], ev_o37 cf (fun r w n => some (r, w, n))),
  (1, [], ev_o38 cf (fun r w n => some (r, w, n))),
  (3, [.retAddr 0, .retAddr 0, .retAddr 0, .retAddr 0, .retAddr 0, .retAddr 0, .retAddr 0], ev_o39 cf (fun r w n => some (r, w, n))),
  (1, [], ev_o40 cf (fun r w n => some (r, w, n))),
  (1, [.retAddr 0, .retAddr 0, .retAddr 0], ev_o41 cf (fun r w n => some (r, w, n))),
  (1, [.retAddr 0, .retAddr 0, .retAddr 0, .retAddr 0, .retAddr 0, .retAddr 0, .retAddr 0], ev_o42 cf (fun r w n => some (r, w, n))),
  (2, [], ev_o43 cf (fun r w n => some (r, w, n))),
  (1, [], ev_o44 cf (fun r w n => some (r, w, n))),
  (1, [], ev_o45 cf (fun r w n => some (r, w, n))),
  (3, [], ev_o46 cf (fun r w n => some (r, w, n))),
  (1, [], ev_o47 cf (fun r w n => some (r, w, n))),
  (0, [], ev_o48 cf (fun r w n => some (r, w, n))),
  (3, [.retAddr 0, .retAddr 0, .retAddr 0], ev_o49 cf (fun r w n => some (r, w, n))),
  (2, [], ev_o50 cf (fun r w n => some (r, w, n))),
  (3, [], ev_o51 cf (fun r w n => some (r, w, n))),
  (1, [], ev_o52 cf (fun r w n => some (r, w, n))),
  (4, [.retAddr 0, .retAddr 0, .retAddr 0], ev_o53 cf (fun r w n => some (r, w, n))),
  (2, [], ev_o54 cf (fun r w n => some (r, w, n))),
  (1, [], ev_o55 cf (fun r w n => some (r, w, n))),
  (1, [], ev_o56 cf (fun r w n => some (r, w, n))),
  (1, [], ev_o57 cf (fun r w n => some (r, w, n))),
  (2, [], ev_o58 cf (fun r w n => some (r, w, n))),
  (2, [], ev_o59 cf (fun r w n => some (r, w, n))),
  (1, [], ev_o60 cf (fun r w n => some (r, w, n))),
  (1, [.retAddr 0], ev_o61 cf (fun r w n => some (r, w, n))),
  (1, [], ev_o62 cf (fun r w n => some (r, w, n))),
  (1, [], ev_o63 cf (fun r w n => some (r, w, n))),
  (5, [.retAddr 0], ev_o64 cf (fun r w n => some (r, w, n))),
  (2, [], ev_o65 cf (fun r w n => some (r, w, n))),
  (3, [.retAddr 0], ev_o66 cf (fun r w n => some (r, w, n))),
  (3, [], ev_o67 cf (fun r w n => some (r, w, n))),
  (1, [], ev_o68 cf (fun r w n => some (r, w, n))),
  (2, [], ev_o69 cf (fun r w n => some (r, w, n))),
  (2, [.retAddr 0], ev_o70 cf (fun r w n => some (r, w, n))),
  (4, [.retAddr 0, .retAddr 0, .retAddr 0], ev_o71 cf (fun r w n => some (r, w, n))),
  (1, [], ev_o72 cf (fun r w n => some (r, w, n))),
  (2, [.retAddr 0, .retAddr 0], ev_o73 cf (fun r w n => some (r, w, n))),
  (3, [.retAddr 0, .retAddr 0, .retAddr 0], ev_o74 cf (fun r w n => some (r, w, n))),
  (1, [], ev_o75 cf (fun r w n => some (r, w, n))),
  (3, [.retAddr 0, .retAddr 0], ev_o76 cf (fun r w n => some (r, w, n)))]
/-- calls, d deep at most -/
noncomputable def ev_call (d : Nat) : Nat → List Value → ev_W → Option ev_R := Nat.rec (motive := fun _ => Nat → List Value → ev_W → Option ev_R) (fun _ _ _ => none) (fun _ ih y vs w => ev_oc (ev_at (ev_tabs ih) y) fun M => ev_go M vs w) d
end
section
/-! what the evaluator's words mean over the machine: numbers, lists, the world -/
theorem ev_at_eq {α : Type} (l : List α) : ∀ k : Nat, ev_at l k = l[k]? := by
  induction l with
  | nil => intro k; rfl
  | cons a l ih =>
    intro k
    cases k with
    | zero => rfl
    | succ k => exact (ih k).trans (by simp)
theorem ev_set_eq {α : Type} (l : List α) : ∀ (k : Nat) (v : α), ev_set l k v = l.set k v := by
  induction l with
  | nil => intro k v; rfl
  | cons a l ih =>
    intro k v
    cases k with
    | zero => rfl
    | succ k => exact congrArg (a :: ·) (ih k v)
theorem ev_len_eq {α : Type} (l : List α) : ev_len l = l.length := by
  induction l with
  | nil => rfl
  | cons a l ih => exact congrArg Nat.succ ih
theorem ev_oc_some {α β : Type} {o : Option β} {f : β → Option α} {r : α} (h : ev_oc o f = some r) : ∃ v, o = some v ∧ f v = some r := by
  cases o with
  | none => cases h
  | some v => exact ⟨v, rfl, h⟩
theorem ev_bc_some {α : Type} {b : Bool} {x y : Option α} {r : α} (h : ev_bc b x y = some r) : (b = true ∧ x = some r) ∨ (b = false ∧ y = some r) := by
  cases b with
  | true => exact Or.inl ⟨rfl, h⟩
  | false => exact Or.inr ⟨rfl, h⟩
theorem ev_bc_t {α : Type} {b : Bool} {x : Option α} {r : α} (h : ev_bc b x none = some r) : b = true ∧ x = some r := by
  cases b with
  | true => exact ⟨rfl, h⟩
  | false => cases h
theorem ev_lc_some {α β : Type} {l : List β} {f : β → List β → Option α} {r : α} (h : ev_lc l f = some r) : ∃ a t, l = a :: t ∧ f a t = some r := by
  cases l with
  | nil => cases h
  | cons a t => exact ⟨a, t, rfl, h⟩
theorem ev_ic_some {α : Type} {v : Value} {f : Int32 → Option α} {r : α} (h : ev_ic v f = some r) : ∃ x, v = .int x ∧ f x = some r := by
  cases v <;> first | exact ⟨_, rfl, h⟩ | cases h
theorem ev_jc_some {α : Type} {v : Value} {f : Int64 → Option α} {r : α} (h : ev_jc v f = some r) : ∃ x, v = .long x ∧ f x = some r := by
  cases v <;> first | exact ⟨_, rfl, h⟩ | cases h
theorem ev_rc_some {α : Type} {v : Value} {f : Nat → Option α} {r : α} (h : ev_rc v f = some r) : ∃ x, v = .ref x ∧ f x = some r := by
  cases v <;> first | exact ⟨_, rfl, h⟩ | cases h
theorem ev_pc_some {α : Type} {v : Value} {y : Option α} {r : α} (h : ev_pc v y = some r) : (v = .null ∨ ∃ x, v = .ref x) ∧ y = some r := by
  cases v <;> first | exact ⟨Or.inl rfl, h⟩ | exact ⟨Or.inr ⟨_, rfl⟩, h⟩ | cases h
theorem ev_c1_some {α : Type} {v : Value} {y : Option α} {r : α} (h : ev_c1 v y = some r) : v.category = 1 ∧ y = some r := by
  cases v <;> first | exact ⟨rfl, h⟩ | cases h
theorem ev_rn_some {α : Type} {v : Value} {f : Nat → Option α} {r : α} (h : ev_rn v f = some r) : (v = .null ∧ f 0 = some r) ∨ ∃ x, v = .ref x ∧ f (x + 1) = some r := by
  cases v <;> first | exact Or.inl ⟨rfl, h⟩ | exact Or.inr ⟨_, rfl, h⟩ | cases h
theorem ev_pop_some {α : Type} {r : α} : ∀ (k : Nat) (S acc : List Value) (f : List Value → List Value → Option α), ev_pop k S acc f = some r → ∃ as S', S = as.reverse ++ S' ∧ as.length = k ∧ f (as ++ acc) S' = some r := by
  intro k
  induction k with
  | zero => intro S acc f h; exact ⟨[], S, rfl, rfl, h⟩
  | succ k ih =>
    intro S acc f h
    obtain ⟨v, S', rfl, h⟩ := ev_lc_some (show ev_lc S (fun v S' => ev_pop k S' (v :: acc) f) = some r from h)
    obtain ⟨as, S2, rfl, h1, h2⟩ := ih S' (v :: acc) f h
    exact ⟨as ++ [v], S2, by simp, by simp [h1], by simpa using h2⟩
/-! numbers -/
theorem ev_bits_inj {x y : Int32} : ev_bits x = ev_bits y ↔ x = y := by
  constructor
  · intro h
    exact Int32.toBitVec_inj.mp (BitVec.eq_of_toNat_eq h)
  · rintro rfl; rfl
theorem ev_bits_lt (x : Int32) : ev_bits x < 4294967296 := x.toBitVec.isLt
theorem ev_bits_toInt (x : Int32) : x.toInt = if ev_bits x < 2147483648 then (ev_bits x : Int) else (ev_bits x : Int) - 4294967296 := by
  show x.toBitVec.toInt = _
  rw [BitVec.toInt_eq_toNat_cond]
  have e : (2 * x.toBitVec.toNat < 2 ^ 32) ↔ ev_bits x < 2147483648 := by
    show _ ↔ x.toBitVec.toNat < _
    omega
  by_cases h : ev_bits x < 2147483648
  · rw [if_pos (e.mpr h), if_pos h]; rfl
  · rw [if_neg (fun q => h (e.mp q)), if_neg h]; rfl
theorem ev_sg_toInt (x : Int32) : (ev_sg x : Int) = x.toInt + 2147483648 := by
  have h := ev_bits_lt x
  rw [ev_bits_toInt]
  unfold ev_sg
  split <;> omega
theorem ev_lt_iff {x y : Int32} : Nat.blt (ev_sg x) (ev_sg y) = true ↔ x < y := by
  rw [Int32.lt_iff_toInt_lt]
  have hx := ev_sg_toInt x
  have hy := ev_sg_toInt y
  rw [Nat.blt_eq]
  omega
theorem ev_le_iff {x y : Int32} : Nat.ble (ev_sg x) (ev_sg y) = true ↔ x ≤ y := by
  rw [Int32.le_iff_toInt_le]
  have hx := ev_sg_toInt x
  have hy := ev_sg_toInt y
  rw [Nat.ble_eq]
  omega
theorem ev_eq_iff {x y : Int32} : Nat.beq (ev_bits x) (ev_bits y) = true ↔ x = y := by
  rw [Nat.beq_eq]
  exact ev_bits_inj
theorem ev_zero_iff {y : Int32} : Nat.beq (ev_bits y) 0 = true ↔ y = 0 := ev_eq_iff (y := 0)
theorem ev_ix {i : Int32} {N : Nat} (h : ev_bits i < N) (hN : N ≤ 100000) : ¬ i < 0 ∧ i.toNatClampNeg = ev_bits i := by
  have e : i.toInt = (ev_bits i : Int) := by rw [ev_bits_toInt, if_pos (by omega)]
  constructor
  · rw [Int32.lt_iff_toInt_lt, e]
    show ¬ _ < (0 : Int32).toInt
    rw [Int32.toInt_zero]
    omega
  · show i.toInt.toNat = _
    rw [e]; rfl
theorem ev_vpin {i : Int32} {N : Nat} (h : ev_bits i < N) (hN : N ≤ 100000) : vp_in i N ∧ i.toNatClampNeg = ev_bits i := by
  obtain ⟨h1, h2⟩ := ev_ix h hN
  refine ⟨fun q => ?_, h2⟩
  rcases q with q | q
  · exact h1 q
  · omega
theorem ev_bool {x : Int32} (h : ev_bits x < 2) : x = 0 ∨ x = 1 := by
  rcases Nat.lt_or_ge (ev_bits x) 1 with q | q
  · exact Or.inl (ev_bits_inj.mp (show ev_bits x = 0 by omega))
  · exact Or.inr (ev_bits_inj.mp (show ev_bits x = 1 by omega))
/-! the world -/
def ev_v (ad : Nat → Nat) : Value → Value
  | .ref k => .ref (ad k)
  | v => v
def ev_iv : Value → Int32
  | .int x => x
  | _ => 0
def ev_rv (ad : Nat → Nat) : Value → Option Nat
  | .ref k => some (ad k)
  | _ => none
/-- G: the classes of the arrays by their kinds -/
def ev_e (G : Nat → ClassId) (ad : Nat → Nat) (c : ev_Q) : va_E := match c.1 with
  | 0 => .inl (G 0, c.2.1, .inl (fun j => ev_iv (c.2.2.getD j .null)))
  | 1 => .inl (G 1, c.2.1, .inl (fun j => ev_iv (c.2.2.getD j .null)))
  | 2 => .inl (G 2, c.2.1, .inr (.inr (.inr (.inr (fun j => ev_rv ad (c.2.2.getD j .null))))))
  | t + 3 => .inr (t, c.2.2.map (ev_v ad))
def ev_w (G : Nat → ClassId) (ad : Nat → Nat) (w : ev_W) : va_W := w.mapIdx (fun k c => (ad k, ev_e G ad c))
def ev_wf (w : ev_W) : Prop := ∀ c ∈ w, c.2.1 = c.2.2.length ∧ c.2.1 ≤ 100000
def ev_ty (G : Nat → ClassId) : List (ClassId × FieldType) := [(G 0, .int), (G 1, .boolean), (G 2, .object "java/lang/Object")]
theorem ev_w_at {G : Nat → ClassId} {ad : Nat → Nat} {w : ev_W} {k : Nat} {c : ev_Q} (h : w[k]? = some c) : (ev_w G ad w)[k]? = some (ad k, ev_e G ad c) := by
  unfold ev_w
  rw [List.getElem?_mapIdx, h]
  rfl
theorem ev_w_set {G : Nat → ClassId} {ad : Nat → Nat} {w : ev_W} {k : Nat} {c : ev_Q} : ev_w G ad (w.set k c) = (ev_w G ad w).set k (ad k, ev_e G ad c) := by
  apply List.ext_getElem?
  intro j
  unfold ev_w
  rw [List.getElem?_mapIdx, List.getElem?_set, List.getElem?_set, List.getElem?_mapIdx, List.length_mapIdx]
  by_cases h : k = j
  · subst h
    by_cases h2 : k < w.length <;> simp [h2]
  · simp [h]
theorem ev_w_push {G : Nat → ClassId} {ad : Nat → Nat} {w : ev_W} {c : ev_Q} : ev_w G ad (w ++ [c]) = ev_w G ad w ++ [(ad w.length, ev_e G ad c)] := by
  apply List.ext_getElem?
  intro j
  unfold ev_w
  rw [List.getElem?_mapIdx, List.getElem?_append, List.getElem?_append, List.getElem?_mapIdx, List.length_mapIdx]
  by_cases h : j < w.length
  · simp [h]
  · rcases Nat.lt_or_ge j (w.length + 1) with h2 | h2
    · rw [show j = w.length by omega]; simp
    · have e : j - w.length = (j - w.length - 1) + 1 := by omega
      rw [if_neg h, if_neg h, e]; simp
theorem ev_wf_set {w : ev_W} {k : Nat} {c : ev_Q} (h : ev_wf w) (hc : c.2.1 = c.2.2.length ∧ c.2.1 ≤ 100000) : ev_wf (w.set k c) := by
  intro q hq
  rcases List.mem_or_eq_of_mem_set hq with h1 | rfl
  · exact h q h1
  · exact hc
theorem ev_wf_push {w : ev_W} {c : ev_Q} (h : ev_wf w) (hc : c.2.1 = c.2.2.length ∧ c.2.1 ≤ 100000) : ev_wf (w ++ [c]) := by
  intro q hq
  rcases List.mem_append.mp hq with h1 | h1
  · exact h q h1
  · rw [List.mem_singleton.mp h1]; exact hc
/-- the heap holds the world; its next cell is the world's next place -/
def ev_H (D : va_G) (G : Nat → ClassId) (ad : Nat → Nat) (A : Nat → Prop) (w : ev_W) (H : Heap) : Prop := va_P D vwCl (ev_w G ad w) H ∧ va_D A (ev_w G ad w) ∧ ev_wf w ∧ H.size = ad w.length
/-- locals: the words that are one wide, by their places -/
def ev_l (ad : Nat → Nat) (L : List Value) : List (Nat × Value) := (L.mapIdx (fun k v => (k, ev_v ad v))).filter (fun q => match q.2 with | .int _ => true | .ref _ => true | .null => true | _ => false)
theorem ev_l_mem {ad : Nat → Nat} {L : List Value} {i : Nat} {v : Value} : (i, v) ∈ ev_l ad L ↔ ∃ u, L[i]? = some u ∧ v = ev_v ad u ∧ (match v with | .int _ => true | .ref _ => true | .null => true | _ => false) = true := by
  unfold ev_l
  rw [List.mem_filter, List.mem_mapIdx]
  constructor
  · rintro ⟨⟨j, hj, e⟩, h2⟩
    cases e
    exact ⟨L[i], by simp [hj], rfl, h2⟩
  · rintro ⟨u, h1, rfl, h2⟩
    obtain ⟨hj, e⟩ := List.getElem?_eq_some_iff.mp h1
    exact ⟨⟨i, hj, by rw [e]⟩, h2⟩
theorem ev_l_at {ad : Nat → Nat} {L : List Value} {ls : Array Slot} {nL i : Nat} {u : Value} (h : lv_has ls nL (ev_l ad L)) (hu : L[i]? = some u) (hk : u = .null ∨ (∃ x, u = .ref x) ∨ ∃ x, u = .int x) : ls[i]? = some (.val (ev_v ad u)) := by
  refine h.2.2 (i, ev_v ad u) (ev_l_mem.mpr ⟨u, hu, rfl, ?_⟩)
  rcases hk with rfl | ⟨x, rfl⟩ | ⟨x, rfl⟩ <;> rfl
/-- a store of a word one wide -/
theorem ev_l_put {ad : Nat → Nat} {L : List Value} {ls : Array Slot} {nL i : Nat} {u : Value} (h : lv_has ls nL ((i, ev_v ad u) :: (ev_l ad L).filter (fun q => !(q.1 == i) && !(q.1 + 1 == i && q.2.category == 2)))) : lv_has ls nL (ev_l ad (L.set i u)) := by
  refine ⟨h.1, h.2.1, fun q hq => ?_⟩
  obtain ⟨j, v⟩ := q
  obtain ⟨u', h1, h2, h3⟩ := ev_l_mem.mp hq
  by_cases hj : j = i
  · subst hj
    have hlt : j < L.length := by
      have := (List.getElem?_eq_some_iff.mp h1).1
      simpa using this
    rw [List.getElem?_set_self hlt] at h1
    cases h1
    subst h2
    exact h.2.2 _ List.mem_cons_self
  · rw [List.getElem?_set_ne (fun q => hj q.symm)] at h1
    refine h.2.2 _ (List.mem_cons_of_mem _ (List.mem_filter.mpr ⟨ev_l_mem.mpr ⟨u', h1, h2, h3⟩, ?_⟩))
    have hc : v.category = 1 := by
      cases v <;> first | rfl | cases h3
    simp [hj, hc]
theorem ev_v_cat {ad : Nat → Nat} {v : Value} : (ev_v ad v).category = v.category := by cases v <;> rfl
theorem ev_sum {ad : Nat → Nat} {S : List Value} (h : S.length ≤ 4) : ((S.map (ev_v ad)).map fun v => v.category).sum ≤ 8 := by
  have key : ∀ S : List Value, ((S.map (ev_v ad)).map fun v => v.category).sum ≤ 2 * S.length := by
    intro S
    induction S with
    | nil => simp
    | cons v S ih =>
      have : (ev_v ad v).category ≤ 2 := by rw [ev_v_cat]; cases v <;> simp [Value.category]
      simp only [List.map_cons, List.sum_cons, List.length_cons]
      omega
  have := key S
  omega
end
section
/-! each operation of the evaluator, over the machine -/
def ev_nk : Cond → Bool
  | .fieldLinkNest .. => true
  | .methodLinkNest .. => true
  | .castable .. => true
  | _ => false
/-- the words that stay as the tables warm; those that are carried by hand; the two calls through an interface -/
def ev_gd : List Cond := lw_tbl.filter goodWord
def ev_nw : List Cond := lw_tbl.filter ev_nk
def ev_fw : List (String × MethodName × MethodName) := [("java/util/ArrayList$Itr", ⟨"java/util/Iterator", "hasNext", "()Z"⟩, ⟨"java/util/ArrayList$Itr", "hasNext", "()Z"⟩), ("java/util/ArrayList$Itr", ⟨"java/util/Iterator", "next", "()Ljava/lang/Object;"⟩, ⟨"java/util/ArrayList$Itr", "next", "()Ljava/lang/Object;"⟩)]
def ev_NW (U : State) : Prop := (∀ w ∈ ev_nw, va_Nw w U) ∧ ∀ q ∈ ev_fw, va_Fw q.1 q.2.1 q.2.2 U
theorem ev_NW.warm {s U : State} (hW : s.WarmedH U.vm) (h : ev_NW s) : ev_NW U := by
  refine ⟨fun w hw => ?_, fun q hq => ?_⟩
  · have h1 := h.1 w hw
    have hk : ev_nk w = true := (List.mem_filter.mp hw).2
    cases w <;> first | exact va_Nw.warmF hW h1 | exact va_Nw.warmM hW h1 | exact va_Nw.warmC hW h1 | exact absurd hk (by simp [ev_nk])
  · refine va_Fw.moved ?_ hW.alike (h.2 q hq)
    unfold ev_fw at hq
    rcases List.mem_cons.mp hq with rfl | hq
    · exact ⟨by decide, by decide⟩
    · rcases List.mem_cons.mp hq with rfl | hq
      · exact ⟨by decide, by decide⟩
      · cases hq
/-- what is so behind every step: the world's tables, the array that new lists share -/
def ev_B (D : va_G) (G : Nat → ClassId) (ad : Nat → Nat) (A : Nat → Prop) (w : ev_W) (U : State) : Prop :=
  ev_H D G ad A w U.heap ∧ va_K D vwCl (ev_ty G) U ∧ va_AO "java/lang/Object" U ∧ ev_NW U ∧ va_Z "java/util/ArrayList" "DEFAULTCAPACITY_EMPTY_ELEMENTDATA" "[Ljava/lang/Object;" (.ref (ad 1)) A U U.heap ∧ ∀ q, U.heap.size ≤ q → A q
def ev_X (cc : ByteArray) (nL : Nat) (own : String) (rt : Option FieldType) (p : Program) (s : State) (m : MethodId) (args : Array Value) (meth : Method) (c : Code) (D : va_G) (G : Nat → ClassId) (ad : Nat → Nat) (A : Nat → Prop) (z : Nat) : Prop :=
  p.tables.exec = Jvm.exec ∧ c.code = cc ∧ c.maxLocals = nL ∧ s.vm.findClass own = some m.cls ∧ (∀ w ∈ ev_gd, w.before args s = true) ∧ va_K D vwCl (ev_ty G) s ∧ va_AO "java/lang/Object" s ∧ ev_NW s ∧ va_Z "java/util/ArrayList" "DEFAULTCAPACITY_EMPTY_ELEMENTDATA" "[Ljava/lang/Object;" (.ref (ad 1)) A s s.heap ∧ (∀ q, s.heap.size ≤ q → A q) ∧ meth.locks = false ∧ meth.sig.returnType = rt ∧ (∀ k, z ≤ k → ad (k + 1) = ad k + 1)
/-- an operation is right at a place: where what follows is, it is -/
def ev_ok {α : Type} (P : Nat → List Value → List Value → ev_W → Nat → Prop) (r : α) (pc : Nat) (o : ev_O α) : Prop := ∀ (k : ev_G α) (L S : List Value) (w : ev_W) (n : Nat), (∀ pc' L' S' w' n', k pc' L' S' w' n' = some r → P pc' L' S' w' n') → o k L S w n = some r → P pc L S w n
section OPS
variable {p : Program} {l : Launch} {e : Env} {R : Room} {s : State} {m : MethodId} {args : Array Value} {below : List Frame} {meth : Method} {c : Code} {Q : State → Prop}
variable {cc : ByteArray} {nL : Nat} {own : String} {rt : Option FieldType} {D : va_G} {G : Nat → ClassId} {ad : Nat → Nat} {A : Nat → Prop} {z wE nE : Nat} {α : Type} {r : α} {P : Nat → List Value → List Value → ev_W → Nat → Prop} {pc q i idx : Nat}
abbrev ev_PP (p : Program) (l : Launch) (e : Env) (R : Room) (s : State) (m : MethodId) (args : Array Value) (below : List Frame) (meth : Method) (c : Code) (Q : State → Prop) (nL : Nat) (D : va_G) (G : Nat → ClassId) (ad : Nat → Nat) (A : Nat → Prop) (z wE nE : Nat) (P : Nat → List Value → List Value → ev_W → Nat → Prop) : Prop :=
  ∀ pc L S w n, P pc L S w n ↔ (z ≤ w.length → (w.length ≤ wE ∧ n ≤ nE) ∧ ∀ (H : Heap) (locs : List Loc) (ls : Array Slot), ev_H D G ad A w H → lv_has ls nL (ev_l ad L) → va_S A s.heap H locs → W p l e R s m args below meth c H locs (w.length - z) n Q (F0 m pc ls (S.map (ev_v ad))))
theorem ok_no : ev_ok P r pc (ev_no : ev_O α) := fun k L S w n _ h => by cases h
/-- an operation that moves neither world nor count, by what it is over the machine -/
theorem ok_of (X : ev_X cc nL own rt p s m args meth c D G ad A z) (hP : ev_PP p l e R s m args below meth c Q nL D G ad A z wE nE P) {o : ev_O α} (h : ∀ (k : ev_G α) (L S : List Value) (w : ev_W) (n : Nat), o k L S w n = some r → ∃ pc' L' S', k pc' L' S' w n = some r ∧ ∀ (H : Heap) (locs : List Loc) (ls : Array Slot), ev_H D G ad A w H → lv_has ls nL (ev_l ad L) → va_S A s.heap H locs → (∀ ls', lv_has ls' nL (ev_l ad L') → W p l e R s m args below meth c H locs (w.length - z) n Q (F0 m pc' ls' (S'.map (ev_v ad)))) → W p l e R s m args below meth c H locs (w.length - z) n Q (F0 m pc ls (S.map (ev_v ad)))) : ev_ok P r pc o := by
  intro k L S w n hk ho
  obtain ⟨pc', L', S', h1, h2⟩ := h k L S w n ho
  rw [hP]
  intro hz
  obtain ⟨hm, h3⟩ := (hP _ _ _ _ _).mp (hk _ _ _ _ _ h1) hz
  exact ⟨hm, fun H locs ls hH hl hS => h2 H locs ls hH hl hS fun ls' hl' => h3 H locs ls' hH hl' hS⟩
theorem ok_psh_iconst (X : ev_X cc nL own rt p s m args meth c D G ad A z) (hP : ev_PP p l e R s m args below meth c Q nL D G ad A z wE nE P) {n : Int} (hd : decode cc pc = .ok (.iconst n, 1)) (hq : pc + 1 = q) : ev_ok P r pc (ev_psh q (.int (Int32.ofInt n))) := by
  subst hq
  exact ok_of X hP fun k L S w n h => ⟨_, _, _, h, fun H locs ls hH hl hS kk => lv_iconst X.1 X.2.1 hd rfl (kk ls hl)⟩
theorem ok_psh_bipush (X : ev_X cc nL own rt p s m args meth c D G ad A z) (hP : ev_PP p l e R s m args below meth c Q nL D G ad A z wE nE P) {n : Int} (hd : decode cc pc = .ok (.bipush n, 2)) (hq : pc + 2 = q) : ev_ok P r pc (ev_psh q (.int (Int8.ofInt n).toInt32)) := by
  subst hq
  exact ok_of X hP fun k L S w n h => ⟨_, _, _, h, fun H locs ls hH hl hS kk => lv_bipush X.1 X.2.1 hd rfl (kk ls hl)⟩
theorem ok_psh_sipush (X : ev_X cc nL own rt p s m args meth c D G ad A z) (hP : ev_PP p l e R s m args below meth c Q nL D G ad A z wE nE P) {n : Int} (hd : decode cc pc = .ok (.sipush n, 3)) (hq : pc + 3 = q) : ev_ok P r pc (ev_psh q (.int (Int16.ofInt n).toInt32)) := by
  subst hq
  exact ok_of X hP fun k L S w n h => ⟨_, _, _, h, fun H locs ls hH hl hS kk => lv_sipush X.1 X.2.1 hd rfl (kk ls hl)⟩
theorem ok_psh_null (X : ev_X cc nL own rt p s m args meth c D G ad A z) (hP : ev_PP p l e R s m args below meth c Q nL D G ad A z wE nE P) (hd : decode cc pc = .ok (.aconst_null, 1)) (hq : pc + 1 = q) : ev_ok P r pc (ev_psh q .null) := by
  subst hq
  exact ok_of X hP fun k L S w n h => ⟨_, _, _, h, fun H locs ls hH hl hS kk => lv_null X.1 X.2.1 hd (kk ls hl)⟩
theorem ok_ild_n (X : ev_X cc nL own rt p s m args meth c D G ad A z) (hP : ev_PP p l e R s m args below meth c Q nL D G ad A z wE nE P) {j : Fin 4} (hd : decode cc pc = .ok (.iload_n j, 1)) (hj : (j : Nat) = i) (hq : pc + 1 = q) : ev_ok P r pc (ev_ild q i) := by
  subst hq
  refine ok_of X hP fun k L S w n h => ?_
  obtain ⟨v, h1, h⟩ := ev_oc_some h
  obtain ⟨x, rfl, h⟩ := ev_ic_some h
  rw [ev_at_eq] at h1
  exact ⟨_, _, _, h, fun H locs ls hH hl hS kk => lv_iload_n X.1 X.2.1 hd hj (ev_l_at hl h1 (Or.inr (Or.inr ⟨_, rfl⟩))) (kk ls hl)⟩
theorem ok_ild (X : ev_X cc nL own rt p s m args meth c D G ad A z) (hP : ev_PP p l e R s m args below meth c Q nL D G ad A z wE nE P) (hd : decode cc pc = .ok (.iload i, 2)) (hq : pc + 2 = q) : ev_ok P r pc (ev_ild q i) := by
  subst hq
  refine ok_of X hP fun k L S w n h => ?_
  obtain ⟨v, h1, h⟩ := ev_oc_some h
  obtain ⟨x, rfl, h⟩ := ev_ic_some h
  rw [ev_at_eq] at h1
  exact ⟨_, _, _, h, fun H locs ls hH hl hS kk => lv_iload X.1 X.2.1 hd (ev_l_at hl h1 (Or.inr (Or.inr ⟨_, rfl⟩))) (kk ls hl)⟩
theorem ok_ald_n (X : ev_X cc nL own rt p s m args meth c D G ad A z) (hP : ev_PP p l e R s m args below meth c Q nL D G ad A z wE nE P) {j : Fin 4} (hd : decode cc pc = .ok (.aload_n j, 1)) (hj : (j : Nat) = i) (hq : pc + 1 = q) : ev_ok P r pc (ev_ald q i) := by
  subst hq
  refine ok_of X hP fun k L S w n h => ?_
  obtain ⟨v, h1, h⟩ := ev_oc_some h
  obtain ⟨hv, h⟩ := ev_pc_some h
  rw [ev_at_eq] at h1
  refine ⟨_, _, _, h, fun H locs ls hH hl hS kk => ?_⟩
  rcases hv with rfl | ⟨x, rfl⟩
  · exact lv_aload_nN X.1 X.2.1 hd hj (ev_l_at hl h1 (Or.inl rfl)) (kk ls hl)
  · exact lv_aload_n X.1 X.2.1 hd hj (ev_l_at hl h1 (Or.inr (Or.inl ⟨_, rfl⟩))) (kk ls hl)
theorem ok_ald (X : ev_X cc nL own rt p s m args meth c D G ad A z) (hP : ev_PP p l e R s m args below meth c Q nL D G ad A z wE nE P) (hd : decode cc pc = .ok (.aload i, 2)) (hq : pc + 2 = q) : ev_ok P r pc (ev_ald q i) := by
  subst hq
  refine ok_of X hP fun k L S w n h => ?_
  obtain ⟨v, h1, h⟩ := ev_oc_some h
  obtain ⟨hv, h⟩ := ev_pc_some h
  rw [ev_at_eq] at h1
  refine ⟨_, _, _, h, fun H locs ls hH hl hS kk => ?_⟩
  rcases hv with rfl | ⟨x, rfl⟩
  · exact lv_aloadN X.1 X.2.1 hd (ev_l_at hl h1 (Or.inl rfl)) (kk ls hl)
  · exact lv_aload X.1 X.2.1 hd (ev_l_at hl h1 (Or.inr (Or.inl ⟨_, rfl⟩))) (kk ls hl)
theorem ok_ist_n (X : ev_X cc nL own rt p s m args meth c D G ad A z) (hP : ev_PP p l e R s m args below meth c Q nL D G ad A z wE nE P) {j : Fin 4} (hd : decode cc pc = .ok (.istore_n j, 1)) (hj : (j : Nat) = i) (hn : i < nL) (hq : pc + 1 = q) : ev_ok P r pc (ev_ist q i) := by
  subst hq
  refine ok_of X hP fun k L S w n h => ?_
  obtain ⟨v, S', rfl, g⟩ := ev_lc_some h
  obtain ⟨x, rfl, g2⟩ := ev_ic_some (v := v) g
  have g3 : k (pc + 1) (ev_set L i (.int x)) S' w n = some r := g2
  rw [ev_set_eq] at g3
  exact ⟨_, _, _, g3, fun H locs ls hH hl hS kk => lv_istore_n X.1 X.2.1 hd hj hl hn rfl fun ls' h' => kk ls' (ev_l_put (u := .int x) h')⟩
theorem ok_ist (X : ev_X cc nL own rt p s m args meth c D G ad A z) (hP : ev_PP p l e R s m args below meth c Q nL D G ad A z wE nE P) (hd : decode cc pc = .ok (.istore i, 2)) (hn : i < nL) (hq : pc + 2 = q) : ev_ok P r pc (ev_ist q i) := by
  subst hq
  refine ok_of X hP fun k L S w n h => ?_
  obtain ⟨v, S', rfl, g⟩ := ev_lc_some h
  obtain ⟨x, rfl, g2⟩ := ev_ic_some (v := v) g
  have g3 : k (pc + 2) (ev_set L i (.int x)) S' w n = some r := g2
  rw [ev_set_eq] at g3
  exact ⟨_, _, _, g3, fun H locs ls hH hl hS kk => lv_istore X.1 X.2.1 hd hl hn rfl fun ls' h' => kk ls' (ev_l_put (u := .int x) h')⟩
theorem ok_ast_n (X : ev_X cc nL own rt p s m args meth c D G ad A z) (hP : ev_PP p l e R s m args below meth c Q nL D G ad A z wE nE P) {j : Fin 4} (hd : decode cc pc = .ok (.astore_n j, 1)) (hj : (j : Nat) = i) (hn : i < nL) (hq : pc + 1 = q) : ev_ok P r pc (ev_ast q i) := by
  subst hq
  refine ok_of X hP fun k L S w n h => ?_
  obtain ⟨v, S', rfl, h⟩ := ev_lc_some h
  obtain ⟨hv, h⟩ := ev_pc_some h
  rw [ev_set_eq] at h
  refine ⟨_, _, _, h, fun H locs ls hH hl hS kk => ?_⟩
  rcases hv with rfl | ⟨x, rfl⟩
  · exact lv_astore_nN X.1 X.2.1 hd hj hl hn rfl fun ls' h' => kk ls' (ev_l_put (u := .null) h')
  · exact lv_astore_n X.1 X.2.1 hd hj hl hn rfl fun ls' h' => kk ls' (ev_l_put (u := .ref x) h')
theorem ok_ast (X : ev_X cc nL own rt p s m args meth c D G ad A z) (hP : ev_PP p l e R s m args below meth c Q nL D G ad A z wE nE P) (hd : decode cc pc = .ok (.astore i, 2)) (hn : i < nL) (hq : pc + 2 = q) : ev_ok P r pc (ev_ast q i) := by
  subst hq
  refine ok_of X hP fun k L S w n h => ?_
  obtain ⟨v, S', rfl, h⟩ := ev_lc_some h
  obtain ⟨hv, h⟩ := ev_pc_some h
  rw [ev_set_eq] at h
  refine ⟨_, _, _, h, fun H locs ls hH hl hS kk => ?_⟩
  rcases hv with rfl | ⟨x, rfl⟩
  · exact lv_astoreN X.1 X.2.1 hd hl hn rfl fun ls' h' => kk ls' (ev_l_put (u := .null) h')
  · exact lv_astore X.1 X.2.1 hd hl hn rfl fun ls' h' => kk ls' (ev_l_put (u := .ref x) h')
theorem ok_inc (X : ev_X cc nL own rt p s m args meth c D G ad A z) (hP : ev_PP p l e R s m args below meth c Q nL D G ad A z wE nE P) {c' : Int} (hd : decode cc pc = .ok (.iinc i c', 3)) (hn : i < nL) (hq : pc + 3 = q) : ev_ok P r pc (ev_inc q i (Int32.ofInt c')) := by
  subst hq
  refine ok_of X hP fun k L S w n h => ?_
  obtain ⟨v, h1, g⟩ := ev_oc_some h
  obtain ⟨x, rfl, g2⟩ := ev_ic_some (v := v) g
  have g3 : k (pc + 3) (ev_set L i (.int (x + Int32.ofInt c'))) S w n = some r := g2
  rw [ev_set_eq] at g3
  rw [ev_at_eq] at h1
  refine ⟨_, _, _, g3, fun H locs ls hH hl hS kk => ?_⟩
  obtain ⟨j, hj⟩ := List.getElem?_of_mem (ev_l_mem.mpr ⟨.int x, h1, rfl, rfl⟩ : (i, ev_v ad (.int x)) ∈ ev_l ad L)
  exact lv_iinc X.1 X.2.1 hd hl (k := j) hj rfl hn rfl fun ls' h' => kk ls' (ev_l_put (u := .int (x + Int32.ofInt c')) h')
theorem ok_dup (X : ev_X cc nL own rt p s m args meth c D G ad A z) (hP : ev_PP p l e R s m args below meth c Q nL D G ad A z wE nE P) (hd : decode cc pc = .ok (.dup, 1)) (hq : pc + 1 = q) : ev_ok P r pc (ev_dup q) := by
  subst hq
  refine ok_of X hP fun k L S w n h => ?_
  obtain ⟨v, S', rfl, h⟩ := ev_lc_some h
  obtain ⟨hv, h⟩ := ev_c1_some h
  exact ⟨_, _, _, h, fun H locs ls hH hl hS kk => lv_dup X.1 X.2.1 hd (ev_v_cat.trans hv) (kk ls hl)⟩
theorem ok_dx1 (X : ev_X cc nL own rt p s m args meth c D G ad A z) (hP : ev_PP p l e R s m args below meth c Q nL D G ad A z wE nE P) (hd : decode cc pc = .ok (.dup_x1, 1)) (hq : pc + 1 = q) : ev_ok P r pc (ev_dx1 q) := by
  subst hq
  refine ok_of X hP fun k L S w n h => ?_
  obtain ⟨v, S1, rfl, h⟩ := ev_lc_some h
  obtain ⟨u, S', rfl, h⟩ := ev_lc_some (l := S1) h
  obtain ⟨hv, h⟩ := ev_c1_some h
  obtain ⟨hu, h⟩ := ev_c1_some h
  exact ⟨_, _, _, h, fun H locs ls hH hl hS kk => lv_dup_x1 X.1 X.2.1 hd (ev_v_cat.trans hv) (ev_v_cat.trans hu) (kk ls hl)⟩
theorem ok_drop (X : ev_X cc nL own rt p s m args meth c D G ad A z) (hP : ev_PP p l e R s m args below meth c Q nL D G ad A z wE nE P) (hd : decode cc pc = .ok (.pop, 1)) (hq : pc + 1 = q) : ev_ok P r pc (ev_drop q) := by
  subst hq
  refine ok_of X hP fun k L S w n h => ?_
  obtain ⟨v, S', rfl, h⟩ := ev_lc_some h
  obtain ⟨hv, h⟩ := ev_c1_some h
  exact ⟨_, _, _, h, fun H locs ls hH hl hS kk => lv_pop X.1 X.2.1 hd (ev_v_cat.trans hv) (kk ls hl)⟩
/-- two numbers off the stack -/
theorem ok_bin (X : ev_X cc nL own rt p s m args meth c D G ad A z) (hP : ev_PP p l e R s m args below meth c Q nL D G ad A z wE nE P) {f : Int32 → Int32 → Int32} (hr : ∀ (H : Heap) (locs : List Loc) (ls : Array Slot) (cells slots : Nat) (rest : List Value) (x y : Int32), W p l e R s m args below meth c H locs cells slots Q (F0 m (pc + 1) ls (.int (f x y) :: rest)) → W p l e R s m args below meth c H locs cells slots Q (F0 m pc ls (.int y :: .int x :: rest))) (hq : pc + 1 = q) : ev_ok P r pc (ev_bin q f) := by
  subst hq
  refine ok_of X hP fun k L S w n h => ?_
  obtain ⟨v, S1, rfl, h⟩ := ev_lc_some h
  obtain ⟨u, S', rfl, h⟩ := ev_lc_some (l := S1) h
  obtain ⟨y, rfl, h⟩ := ev_ic_some h
  obtain ⟨x, rfl, h⟩ := ev_ic_some h
  exact ⟨_, _, _, h, fun H locs ls hH hl hS kk => hr H locs ls _ _ _ x y (kk ls hl)⟩
theorem ok_iadd (X : ev_X cc nL own rt p s m args meth c D G ad A z) (hP : ev_PP p l e R s m args below meth c Q nL D G ad A z wE nE P) (hd : decode cc pc = .ok (.iadd, 1)) (hq : pc + 1 = q) : ev_ok P r pc (ev_bin q (fun x y => x + y)) := ok_bin X hP (fun _ _ _ _ _ _ _ _ kk => lv_iadd X.1 X.2.1 hd kk) hq
theorem ok_isub (X : ev_X cc nL own rt p s m args meth c D G ad A z) (hP : ev_PP p l e R s m args below meth c Q nL D G ad A z wE nE P) (hd : decode cc pc = .ok (.isub, 1)) (hq : pc + 1 = q) : ev_ok P r pc (ev_bin q (fun x y => x - y)) := ok_bin X hP (fun _ _ _ _ _ _ _ _ kk => lv_isub X.1 X.2.1 hd kk) hq
theorem ok_imul (X : ev_X cc nL own rt p s m args meth c D G ad A z) (hP : ev_PP p l e R s m args below meth c Q nL D G ad A z wE nE P) (hd : decode cc pc = .ok (.imul, 1)) (hq : pc + 1 = q) : ev_ok P r pc (ev_bin q (fun x y => x * y)) := ok_bin X hP (fun _ _ _ _ _ _ _ _ kk => lv_imul X.1 X.2.1 hd kk) hq
theorem ok_iand (X : ev_X cc nL own rt p s m args meth c D G ad A z) (hP : ev_PP p l e R s m args below meth c Q nL D G ad A z wE nE P) (hd : decode cc pc = .ok (.iand, 1)) (hq : pc + 1 = q) : ev_ok P r pc (ev_bin q (fun x y => x &&& y)) := ok_bin X hP (fun _ _ _ _ _ _ _ _ kk => lv_iand X.1 X.2.1 hd kk) hq
theorem ok_ior (X : ev_X cc nL own rt p s m args meth c D G ad A z) (hP : ev_PP p l e R s m args below meth c Q nL D G ad A z wE nE P) (hd : decode cc pc = .ok (.ior, 1)) (hq : pc + 1 = q) : ev_ok P r pc (ev_bin q (fun x y => x ||| y)) := ok_bin X hP (fun _ _ _ _ _ _ _ _ kk => lv_ior X.1 X.2.1 hd kk) hq
theorem ok_ishl (X : ev_X cc nL own rt p s m args meth c D G ad A z) (hP : ev_PP p l e R s m args below meth c Q nL D G ad A z wE nE P) (hd : decode cc pc = .ok (.ishl, 1)) (hq : pc + 1 = q) : ev_ok P r pc (ev_bin q (fun x y => x <<< (y &&& 31))) := ok_bin X hP (fun _ _ _ _ _ _ _ _ kk => lv_ishl X.1 X.2.1 hd kk) hq
theorem ok_ishr (X : ev_X cc nL own rt p s m args meth c D G ad A z) (hP : ev_PP p l e R s m args below meth c Q nL D G ad A z wE nE P) (hd : decode cc pc = .ok (.ishr, 1)) (hq : pc + 1 = q) : ev_ok P r pc (ev_bin q (fun x y => x >>> (y &&& 31))) := ok_bin X hP (fun _ _ _ _ _ _ _ _ kk => lv_ishr X.1 X.2.1 hd kk) hq
theorem ok_div (X : ev_X cc nL own rt p s m args meth c D G ad A z) (hP : ev_PP p l e R s m args below meth c Q nL D G ad A z wE nE P) {f : Int32 → Int32 → Int32} (hr : ∀ (H : Heap) (locs : List Loc) (ls : Array Slot) (cells slots : Nat) (rest : List Value) (x y : Int32), ¬ y = 0 → W p l e R s m args below meth c H locs cells slots Q (F0 m (pc + 1) ls (.int (f x y) :: rest)) → W p l e R s m args below meth c H locs cells slots Q (F0 m pc ls (.int y :: .int x :: rest))) (hq : pc + 1 = q) : ev_ok P r pc (ev_div q f) := by
  subst hq
  refine ok_of X hP fun k L S w n h => ?_
  obtain ⟨v, S1, rfl, h⟩ := ev_lc_some h
  obtain ⟨u, S', rfl, h⟩ := ev_lc_some (l := S1) h
  obtain ⟨y, rfl, h⟩ := ev_ic_some h
  obtain ⟨x, rfl, h⟩ := ev_ic_some h
  rcases ev_bc_some h with ⟨-, h⟩ | ⟨hy, h⟩
  · cases h
  · exact ⟨_, _, _, h, fun H locs ls hH hl hS kk => hr H locs ls _ _ _ x y (fun e => by rw [ev_zero_iff.mpr e] at hy; cases hy) (kk ls hl)⟩
theorem ok_idiv (X : ev_X cc nL own rt p s m args meth c D G ad A z) (hP : ev_PP p l e R s m args below meth c Q nL D G ad A z wE nE P) (hd : decode cc pc = .ok (.idiv, 1)) (hq : pc + 1 = q) : ev_ok P r pc (ev_div q (fun x y => x / y)) := ok_div X hP (fun _ _ _ _ _ _ _ _ hy kk => lv_idiv X.1 X.2.1 hd hy kk) hq
theorem ok_irem (X : ev_X cc nL own rt p s m args meth c D G ad A z) (hP : ev_PP p l e R s m args below meth c Q nL D G ad A z wE nE P) (hd : decode cc pc = .ok (.irem, 1)) (hq : pc + 1 = q) : ev_ok P r pc (ev_div q (fun x y => x - x / y * y)) := ok_div X hP (fun _ _ _ _ _ _ _ _ hy kk => lv_irem X.1 X.2.1 hd hy kk) hq
/-- a branch on two numbers -/
theorem ok_cmp (X : ev_X cc nL own rt p s m args meth c D G ad A z) (hP : ev_PP p l e R s m args below meth c Q nL D G ad A z wE nE P) {t : Nat} {f : Int32 → Int32 → Bool} {g : Int32 → Int32 → Prop} (hf : ∀ x y, f x y = true ↔ g x y) (hr : ∀ (H : Heap) (locs : List Loc) (ls : Array Slot) (cells slots : Nat) (rest : List Value) (x y : Int32), (g x y → W p l e R s m args below meth c H locs cells slots Q (F0 m t ls rest)) → (¬ g x y → W p l e R s m args below meth c H locs cells slots Q (F0 m (pc + 3) ls rest)) → W p l e R s m args below meth c H locs cells slots Q (F0 m pc ls (.int y :: .int x :: rest))) (hq : pc + 3 = q) : ev_ok P r pc (ev_cmp q t f) := by
  subst hq
  refine ok_of X hP fun k L S w n h => ?_
  obtain ⟨v, S1, rfl, h⟩ := ev_lc_some h
  obtain ⟨u, S', rfl, h⟩ := ev_lc_some (l := S1) h
  obtain ⟨y, rfl, h⟩ := ev_ic_some h
  obtain ⟨x, rfl, h⟩ := ev_ic_some h
  rcases ev_bc_some h with ⟨hb, h⟩ | ⟨hb, h⟩
  · exact ⟨_, _, _, h, fun H locs ls hH hl hS kk => hr H locs ls _ _ _ x y (fun _ => kk ls hl) (fun q => absurd ((hf x y).mp hb) q)⟩
  · exact ⟨_, _, _, h, fun H locs ls hH hl hS kk => hr H locs ls _ _ _ x y (fun q => by rw [(hf x y).mpr q] at hb; cases hb) (fun _ => kk ls hl)⟩
theorem ok_icmp_eq (X : ev_X cc nL own rt p s m args meth c D G ad A z) (hP : ev_PP p l e R s m args below meth c Q nL D G ad A z wE nE P) {t : Nat} {off : Int} (hd : decode cc pc = .ok (.if_icmp .eq off, 3)) (ht : (pc : Int) + off = (t : Int)) (hq : pc + 3 = q) : ev_ok P r pc (ev_cmp q t (fun x y => Nat.beq (ev_bits x) (ev_bits y))) := ok_cmp X hP (g := fun x y => x = y) (fun _ _ => ev_eq_iff) (fun _ _ _ _ _ _ _ _ k1 k2 => lv_icmp_eq X.1 X.2.1 hd ht k1 k2) hq
theorem ok_icmp_ne (X : ev_X cc nL own rt p s m args meth c D G ad A z) (hP : ev_PP p l e R s m args below meth c Q nL D G ad A z wE nE P) {t : Nat} {off : Int} (hd : decode cc pc = .ok (.if_icmp .ne off, 3)) (ht : (pc : Int) + off = (t : Int)) (hq : pc + 3 = q) : ev_ok P r pc (ev_cmp q t (fun x y => !Nat.beq (ev_bits x) (ev_bits y))) := ok_cmp X hP (g := fun x y => ¬ x = y) (fun x y => by rw [← ev_eq_iff]; cases Nat.beq (ev_bits x) (ev_bits y) <;> simp) (fun _ _ _ _ _ _ _ _ k1 k2 => lv_icmp_ne X.1 X.2.1 hd ht k1 (fun e => k2 (fun q => q e))) hq
theorem ok_icmp_lt (X : ev_X cc nL own rt p s m args meth c D G ad A z) (hP : ev_PP p l e R s m args below meth c Q nL D G ad A z wE nE P) {t : Nat} {off : Int} (hd : decode cc pc = .ok (.if_icmp .lt off, 3)) (ht : (pc : Int) + off = (t : Int)) (hq : pc + 3 = q) : ev_ok P r pc (ev_cmp q t (fun x y => Nat.blt (ev_sg x) (ev_sg y))) := ok_cmp X hP (g := fun x y => x < y) (fun _ _ => ev_lt_iff) (fun _ _ _ _ _ _ _ _ k1 k2 => lv_icmp_lt X.1 X.2.1 hd ht k1 k2) hq
theorem ok_icmp_ge (X : ev_X cc nL own rt p s m args meth c D G ad A z) (hP : ev_PP p l e R s m args below meth c Q nL D G ad A z wE nE P) {t : Nat} {off : Int} (hd : decode cc pc = .ok (.if_icmp .ge off, 3)) (ht : (pc : Int) + off = (t : Int)) (hq : pc + 3 = q) : ev_ok P r pc (ev_cmp q t (fun x y => Nat.ble (ev_sg y) (ev_sg x))) := ok_cmp X hP (g := fun x y => y ≤ x) (fun _ _ => ev_le_iff) (fun _ _ _ _ _ _ _ _ k1 k2 => lv_icmp_ge X.1 X.2.1 hd ht k1 k2) hq
theorem ok_icmp_gt (X : ev_X cc nL own rt p s m args meth c D G ad A z) (hP : ev_PP p l e R s m args below meth c Q nL D G ad A z wE nE P) {t : Nat} {off : Int} (hd : decode cc pc = .ok (.if_icmp .gt off, 3)) (ht : (pc : Int) + off = (t : Int)) (hq : pc + 3 = q) : ev_ok P r pc (ev_cmp q t (fun x y => Nat.blt (ev_sg y) (ev_sg x))) := ok_cmp X hP (g := fun x y => y < x) (fun _ _ => ev_lt_iff) (fun _ _ _ _ _ _ _ _ k1 k2 => lv_icmp_gt X.1 X.2.1 hd ht k1 k2) hq
theorem ok_icmp_le (X : ev_X cc nL own rt p s m args meth c D G ad A z) (hP : ev_PP p l e R s m args below meth c Q nL D G ad A z wE nE P) {t : Nat} {off : Int} (hd : decode cc pc = .ok (.if_icmp .le off, 3)) (ht : (pc : Int) + off = (t : Int)) (hq : pc + 3 = q) : ev_ok P r pc (ev_cmp q t (fun x y => Nat.ble (ev_sg x) (ev_sg y))) := ok_cmp X hP (g := fun x y => x ≤ y) (fun _ _ => ev_le_iff) (fun _ _ _ _ _ _ _ _ k1 k2 => lv_icmp_le X.1 X.2.1 hd ht k1 k2) hq
theorem ok_cm0 (X : ev_X cc nL own rt p s m args meth c D G ad A z) (hP : ev_PP p l e R s m args below meth c Q nL D G ad A z wE nE P) {t : Nat} {f : Int32 → Bool} {g : Int32 → Prop} (hf : ∀ x, f x = true ↔ g x) (hr : ∀ (H : Heap) (locs : List Loc) (ls : Array Slot) (cells slots : Nat) (rest : List Value) (x : Int32), (g x → W p l e R s m args below meth c H locs cells slots Q (F0 m t ls rest)) → (¬ g x → W p l e R s m args below meth c H locs cells slots Q (F0 m (pc + 3) ls rest)) → W p l e R s m args below meth c H locs cells slots Q (F0 m pc ls (.int x :: rest))) (hq : pc + 3 = q) : ev_ok P r pc (ev_cm0 q t f) := by
  subst hq
  refine ok_of X hP fun k L S w n h => ?_
  obtain ⟨v, S', rfl, h⟩ := ev_lc_some h
  obtain ⟨x, rfl, h⟩ := ev_ic_some h
  rcases ev_bc_some h with ⟨hb, h⟩ | ⟨hb, h⟩
  · exact ⟨_, _, _, h, fun H locs ls hH hl hS kk => hr H locs ls _ _ _ x (fun _ => kk ls hl) (fun q => absurd ((hf x).mp hb) q)⟩
  · exact ⟨_, _, _, h, fun H locs ls hH hl hS kk => hr H locs ls _ _ _ x (fun q => by rw [(hf x).mpr q] at hb; cases hb) (fun _ => kk ls hl)⟩
theorem ok_if_eq (X : ev_X cc nL own rt p s m args meth c D G ad A z) (hP : ev_PP p l e R s m args below meth c Q nL D G ad A z wE nE P) {t : Nat} {off : Int} (hd : decode cc pc = .ok (.ifCond .eq off, 3)) (ht : (pc : Int) + off = (t : Int)) (hq : pc + 3 = q) : ev_ok P r pc (ev_cm0 q t (fun x => Nat.beq (ev_bits x) (ev_bits 0))) := ok_cm0 X hP (g := fun x => x = 0) (fun _ => ev_eq_iff) (fun _ _ _ _ _ _ _ k1 k2 => lv_if_eq X.1 X.2.1 hd ht k1 k2) hq
theorem ok_if_ne (X : ev_X cc nL own rt p s m args meth c D G ad A z) (hP : ev_PP p l e R s m args below meth c Q nL D G ad A z wE nE P) {t : Nat} {off : Int} (hd : decode cc pc = .ok (.ifCond .ne off, 3)) (ht : (pc : Int) + off = (t : Int)) (hq : pc + 3 = q) : ev_ok P r pc (ev_cm0 q t (fun x => !Nat.beq (ev_bits x) (ev_bits 0))) := ok_cm0 X hP (g := fun x => ¬ x = 0) (fun x => by rw [← ev_eq_iff]; cases Nat.beq (ev_bits x) (ev_bits 0) <;> simp) (fun _ _ _ _ _ _ _ k1 k2 => lv_if_ne X.1 X.2.1 hd ht k1 (fun e => k2 (fun q => q e))) hq
theorem ok_if_lt (X : ev_X cc nL own rt p s m args meth c D G ad A z) (hP : ev_PP p l e R s m args below meth c Q nL D G ad A z wE nE P) {t : Nat} {off : Int} (hd : decode cc pc = .ok (.ifCond .lt off, 3)) (ht : (pc : Int) + off = (t : Int)) (hq : pc + 3 = q) : ev_ok P r pc (ev_cm0 q t (fun x => Nat.blt (ev_sg x) (ev_sg 0))) := ok_cm0 X hP (g := fun x => x < 0) (fun _ => ev_lt_iff) (fun _ _ _ _ _ _ _ k1 k2 => lv_if_lt X.1 X.2.1 hd ht k1 k2) hq
theorem ok_if_ge (X : ev_X cc nL own rt p s m args meth c D G ad A z) (hP : ev_PP p l e R s m args below meth c Q nL D G ad A z wE nE P) {t : Nat} {off : Int} (hd : decode cc pc = .ok (.ifCond .ge off, 3)) (ht : (pc : Int) + off = (t : Int)) (hq : pc + 3 = q) : ev_ok P r pc (ev_cm0 q t (fun x => Nat.ble (ev_sg 0) (ev_sg x))) := ok_cm0 X hP (g := fun x => 0 ≤ x) (fun _ => ev_le_iff) (fun _ _ _ _ _ _ _ k1 k2 => lv_if_ge X.1 X.2.1 hd ht k1 k2) hq
theorem ok_if_gt (X : ev_X cc nL own rt p s m args meth c D G ad A z) (hP : ev_PP p l e R s m args below meth c Q nL D G ad A z wE nE P) {t : Nat} {off : Int} (hd : decode cc pc = .ok (.ifCond .gt off, 3)) (ht : (pc : Int) + off = (t : Int)) (hq : pc + 3 = q) : ev_ok P r pc (ev_cm0 q t (fun x => Nat.blt (ev_sg 0) (ev_sg x))) := ok_cm0 X hP (g := fun x => 0 < x) (fun _ => ev_lt_iff) (fun _ _ _ _ _ _ _ k1 k2 => lv_if_gt X.1 X.2.1 hd ht k1 k2) hq
theorem ok_if_le (X : ev_X cc nL own rt p s m args meth c D G ad A z) (hP : ev_PP p l e R s m args below meth c Q nL D G ad A z wE nE P) {t : Nat} {off : Int} (hd : decode cc pc = .ok (.ifCond .le off, 3)) (ht : (pc : Int) + off = (t : Int)) (hq : pc + 3 = q) : ev_ok P r pc (ev_cm0 q t (fun x => Nat.ble (ev_sg x) (ev_sg 0))) := ok_cm0 X hP (g := fun x => x ≤ 0) (fun _ => ev_le_iff) (fun _ _ _ _ _ _ _ k1 k2 => lv_if_le X.1 X.2.1 hd ht k1 k2) hq
theorem ok_jmp (X : ev_X cc nL own rt p s m args meth c D G ad A z) (hP : ev_PP p l e R s m args below meth c Q nL D G ad A z wE nE P) {t : Nat} {off : Int} (hd : decode cc pc = .ok (.goto off, 3)) (ht : (pc : Int) + off = (t : Int)) : ev_ok P r pc (ev_jmp t) := by
  refine ok_of X hP fun k L S w n h => ?_
  exact ⟨_, _, _, h, fun H locs ls hH hl hS kk => lv_goto X.1 X.2.1 hd ht (kk ls hl)⟩
theorem ok_i2l (X : ev_X cc nL own rt p s m args meth c D G ad A z) (hP : ev_PP p l e R s m args below meth c Q nL D G ad A z wE nE P) (hd : decode cc pc = .ok (.i2l, 1)) (hq : pc + 1 = q) : ev_ok P r pc (ev_i2l q) := by
  subst hq
  refine ok_of X hP fun k L S w n h => ?_
  obtain ⟨v, S', rfl, h⟩ := ev_lc_some h
  obtain ⟨x, rfl, h⟩ := ev_ic_some h
  exact ⟨_, _, _, h, fun H locs ls hH hl hS kk => lv_i2l X.1 X.2.1 hd rfl (kk ls hl)⟩
theorem ok_lcm (X : ev_X cc nL own rt p s m args meth c D G ad A z) (hP : ev_PP p l e R s m args below meth c Q nL D G ad A z wE nE P) (hd : decode cc pc = .ok (.lcmp, 1)) (hq : pc + 1 = q) : ev_ok P r pc (ev_lcm q) := by
  subst hq
  refine ok_of X hP fun k L S w n h => ?_
  obtain ⟨v, S1, rfl, h⟩ := ev_lc_some h
  obtain ⟨u, S', rfl, h⟩ := ev_lc_some (l := S1) h
  obtain ⟨y, rfl, h⟩ := ev_jc_some h
  obtain ⟨x, rfl, h⟩ := ev_jc_some h
  exact ⟨_, _, _, h, fun H locs ls hH hl hS kk => W.lcmp X.1 X.2.1 hd (kk ls hl)⟩
theorem ok_gst (X : ev_X cc nL own rt p s m args meth c D G ad A z) (hP : ev_PP p l e R s m args below meth c Q nL D G ad A z wE nE P) (hd : decode cc pc = .ok (.getstatic idx, 3)) (hl : Cond.fieldLink own idx "java/util/ArrayList" "DEFAULTCAPACITY_EMPTY_ELEMENTDATA" "[Ljava/lang/Object;" ∈ ev_gd) (hq : pc + 3 = q) : ev_ok P r pc (ev_gst q 1) := by
  subst hq
  refine ok_of X hP fun k L S w n h => ?_
  obtain ⟨hx, hb, hml, hown, hts, hK, hAO, hNW, hZ, -⟩ := X
  exact ⟨_, _, _, h, fun H locs ls hH hl' hS kk => va_gets hx hb hZ hS hown (hts _ hl) (fun x h => h) hd (kk ls hl')⟩
theorem ok_tsw (X : ev_X cc nL own rt p s m args meth c D G ad A z) (hP : ev_PP p l e R s m args below meth c Q nL D G ad A z wE nE P) {ts : List Nat} {dflt hi : Int} {offs : Array Int} {len : Nat} (hd : decode cc pc = .ok (.tableswitch dflt 0 hi offs, len)) (hh : hi + 1 = (ts.length : Int)) (ho : (List.range ts.length).all (fun j => match offs[j]?, ts[j]? with | some off, some t => decide ((pc : Int) + off = (t : Int)) | _, _ => false) = true) : ev_ok P r pc (ev_tsw ts) := by
  refine ok_of X hP fun k L S w n h => ?_
  obtain ⟨v, S', rfl, h⟩ := ev_lc_some h
  obtain ⟨x, rfl, h⟩ := ev_ic_some h
  obtain ⟨hb, h⟩ := ev_bc_t h
  obtain ⟨t, h1, h⟩ := ev_oc_some h
  rw [Nat.blt_eq] at hb
  rw [ev_at_eq] at h1
  have e : x.toInt = (ev_bits x : Int) := by rw [ev_bits_toInt, if_pos (by omega)]
  have hlt := (List.getElem?_eq_some_iff.mp h1).1
  have ho1 := List.all_eq_true.mp ho (ev_bits x) (List.mem_range.mpr hlt)
  rw [h1] at ho1
  cases o1 : offs[ev_bits x]? with
  | none => rw [o1] at ho1; cases ho1
  | some off =>
    rw [o1] at ho1
    have o3 : (pc : Int) + off = (t : Int) := of_decide_eq_true ho1
    refine ⟨_, _, _, h, fun H locs ls hH hl hS kk => lv_tableIn X.1 X.2.1 hd (by rw [e]; omega) (by rw [e]; omega) (off := off) ?_ o3 (kk ls hl)⟩
    rw [e]
    simpa using o1
end OPS
end
section
/-! operations on the world's cells -/
theorem ev_H_set {D : va_G} {G : Nat → ClassId} {ad : Nat → Nat} {A : Nat → Prop} {w : ev_W} {H H1 : Heap} {a : Nat} {c0 c1 : ev_Q} (hH : ev_H D G ad A w H) (h0 : w[a]? = some c0) (he : va_at D vwCl (ad a, ev_e G ad c1) H1) (z : H1.size = H.size) (oq : ∀ q : Nat, q ≠ ad a → H1[q]? = H[q]?) (hc : c1.2.1 = c1.2.2.length ∧ c1.2.1 ≤ 100000) : ev_H D G ad A (w.set a c1) H1 := by
  obtain ⟨hP, hD, hw, hz⟩ := hH
  have h1 := ev_w_at (G := G) (ad := ad) h0
  refine ⟨?_, ?_, ev_wf_set hw hc, by rw [z, hz, List.length_set]⟩
  · rw [ev_w_set]; exact hP.set hD h1 he oq
  · rw [ev_w_set]; exact hD.set h1
theorem ev_H_push {D : va_G} {G : Nat → ClassId} {ad : Nat → Nat} {A : Nat → Prop} {w : ev_W} {H H1 : Heap} {c1 : ev_Q} (hH : ev_H D G ad A w H) (he : va_at D vwCl (ad w.length, ev_e G ad c1) H1) (z : H1.size = H.size + 1) (oq : ∀ q : Nat, q < H.size → H1[q]? = H[q]?) (hA : A (ad w.length)) (had : ad (w.length + 1) = ad w.length + 1) (hc : c1.2.1 = c1.2.2.length ∧ c1.2.1 ≤ 100000) : ev_H D G ad A (w ++ [c1]) H1 := by
  obtain ⟨hP, hD, hw, hz⟩ := hH
  refine ⟨?_, ?_, ev_wf_push hw hc, by rw [z, hz, List.length_append, List.length_singleton, had]⟩
  · rw [ev_w_push]
    refine (hP.kept (fun k q hk => oq q.1 (hP k q hk).lt)).app (fun k q hk => ?_)
    have hl := (List.getElem?_eq_some_iff.mp hk).1
    rw [List.length_singleton] at hl
    have h0 : k = 0 := by omega
    subst h0
    cases hk
    exact he
  · rw [ev_w_push]
    exact hD.push hP hz.symm hA
theorem ev_obj_at {G : Nat → ClassId} {ad : Nat → Nat} {w : ev_W} {a ci : Nat} {c : ev_Q} (h : w[a]? = some c) (ht : Nat.beq c.1 (ci + 3) = true) : (ev_w G ad w)[a]? = some (ad a, .inr (ci, c.2.2.map (ev_v ad))) := by
  obtain ⟨t, N, vs⟩ := c
  have e : t = ci + 3 := Nat.eq_of_beq_eq_true ht
  subst e
  exact ev_w_at h
theorem ev_arr_at {G : Nat → ClassId} {ad : Nat → Nat} {w : ev_W} {a : Nat} {c : ev_Q} (h : w[a]? = some c) (t : Nat) (ht : c.1 = t) : (ev_w G ad w)[a]? = some (ad a, ev_e G ad (t, c.2)) := by
  subst ht
  exact ev_w_at h
/-- which types a field's kind stands for -/
def ev_tk (ty : FieldType) (q : Nat) : Bool := match q, ty with
  | 0, .int => true
  | 1, .object _ => true
  | 1, .array _ => true
  | 2, .boolean => true
  | 3, .long => true
  | _, _ => false
theorem ev_fit_some {α : Type} {q : Nat} {v : Value} {y : Option α} {r : α} {ty : FieldType} {ad : Nat → Nat} (hty : ev_tk ty q = true) (h : ev_fit q v y = some r) : y = some r ∧ narrow ty (ev_v ad v) = ev_v ad v ∧ fits ty (ev_v ad v) = true := by
  match q, hty, h with
  | 0, hty, h =>
    obtain ⟨x, rfl, h1⟩ := ev_ic_some (v := v) h
    cases ty <;> simp [ev_tk] at hty
    exact ⟨h1, rfl, rfl⟩
  | 1, hty, h =>
    obtain ⟨hv, h1⟩ := ev_pc_some (v := v) h
    rcases hv with rfl | ⟨x, rfl⟩ <;> cases ty <;> simp [ev_tk] at hty <;> exact ⟨h1, rfl, rfl⟩
  | 2, hty, h =>
    obtain ⟨x, rfl, h1⟩ := ev_ic_some (v := v) h
    obtain ⟨hb, h2⟩ := ev_bc_t h1
    cases ty <;> simp [ev_tk] at hty
    rcases ev_bool (by rw [← Nat.blt_eq]; exact hb) with rfl | rfl
    · exact ⟨h2, rfl, rfl⟩
    · exact ⟨h2, rfl, rfl⟩
  | 3, hty, h =>
    obtain ⟨x, rfl, h1⟩ := ev_jc_some (v := v) h
    cases ty <;> simp [ev_tk] at hty
    exact ⟨h1, rfl, rfl⟩
  | q + 4, hty, h => cases ty <;> simp [ev_tk] at hty
section HOPS
variable {p : Program} {l : Launch} {e : Env} {R : Room} {s : State} {m : MethodId} {args : Array Value} {below : List Frame} {meth : Method} {c : Code} {Q : State → Prop}
variable {cc : ByteArray} {nL : Nat} {own : String} {rt : Option FieldType} {D : va_G} {G : Nat → ClassId} {ad : Nat → Nat} {A : Nat → Prop} {z wE nE : Nat} {α : Type} {r : α} {P : Nat → List Value → List Value → ev_W → Nat → Prop} {pc q i idx : Nat}
/-- an operation that sets a cell -/
theorem ok_upd (hP : ev_PP p l e R s m args below meth c Q nL D G ad A z wE nE P) {o : ev_O α} (h : ∀ (k : ev_G α) (L S : List Value) (w : ev_W) (n : Nat), o k L S w n = some r → ∃ pc' S' a c1, k pc' L S' (w.set a c1) n = some r ∧ ∀ (H : Heap) (locs : List Loc) (ls : Array Slot), ev_H D G ad A w H → lv_has ls nL (ev_l ad L) → va_S A s.heap H locs → (∀ H1 locs1, ev_H D G ad A (w.set a c1) H1 → va_S A s.heap H1 locs1 → W p l e R s m args below meth c H1 locs1 (w.length - z) n Q (F0 m pc' ls (S'.map (ev_v ad)))) → W p l e R s m args below meth c H locs (w.length - z) n Q (F0 m pc ls (S.map (ev_v ad)))) : ev_ok P r pc o := by
  intro k L S w n hk ho
  obtain ⟨pc', S', a, c1, h1, h2⟩ := h k L S w n ho
  rw [hP]
  intro hz
  obtain ⟨hm, h3⟩ := (hP _ _ _ _ _).mp (hk _ _ _ _ _ h1) (by rw [List.length_set]; exact hz)
  rw [List.length_set] at hm h3
  exact ⟨hm, fun H locs ls hH hl hS => h2 H locs ls hH hl hS fun H1 locs1 hH1 hS1 => h3 H1 locs1 ls hH1 hl hS1⟩
/-- an operation that makes a cell of N slots -/
theorem ok_push (hP : ev_PP p l e R s m args below meth c Q nL D G ad A z wE nE P) (hR : wE - z ≤ R.cells ∧ nE ≤ R.slots) {o : ev_O α} (h : ∀ (k : ev_G α) (L S : List Value) (w : ev_W) (n : Nat), o k L S w n = some r → ∃ pc' S' c1 N, k pc' L S' (w ++ [c1]) (n + N) = some r ∧ ∀ (H : Heap) (locs : List Loc) (ls : Array Slot), z ≤ w.length → w.length - z + 1 ≤ R.cells → n + N ≤ R.slots → ev_H D G ad A w H → lv_has ls nL (ev_l ad L) → va_S A s.heap H locs → (∀ H1 locs1, ev_H D G ad A (w ++ [c1]) H1 → va_S A s.heap H1 locs1 → W p l e R s m args below meth c H1 locs1 (w.length - z + 1) (n + N) Q (F0 m pc' ls (S'.map (ev_v ad)))) → W p l e R s m args below meth c H locs (w.length - z) n Q (F0 m pc ls (S.map (ev_v ad)))) : ev_ok P r pc o := by
  intro k L S w n hk ho
  obtain ⟨pc', S', c1, N, h1, h2⟩ := h k L S w n ho
  rw [hP]
  intro hz
  obtain ⟨hm, h3⟩ := (hP _ _ _ _ _).mp (hk _ _ _ _ _ h1) (by rw [List.length_append]; omega)
  rw [List.length_append, List.length_singleton] at hm h3
  have e : w.length + 1 - z = w.length - z + 1 := by omega
  rw [e] at h3
  exact ⟨⟨by omega, by omega⟩, fun H locs ls hH hl hS => h2 H locs ls hz (by omega) (by omega) hH hl hS fun H1 locs1 hH1 hS1 => h3 H1 locs1 ls hH1 hl hS1⟩
theorem ev_same {ref O nm ds : String} (X : ev_X cc nL own rt p s m args meth c D G ad A z) (hs : ref = O ∨ Cond.sameField ref O nm ds ∈ ev_gd) : ∀ x, s.fieldFound? O nm ds = some x → s.fieldFound? ref nm ds = some x := by
  intro x hx
  rcases hs with rfl | h
  · exact hx
  · exact u_same (X.2.2.2.2.1 _ h) x hx
theorem ok_get (X : ev_X cc nL own rt p s m args meth c D G ad A z) (hP : ev_PP p l e R s m args below meth c Q nL D G ad A z wE nE P) {ci kf N : Nat} {ref C : String} {T : u_T} (hd : decode cc pc = .ok (.getfield idx, 3)) (hc : vwCl[ci]? = some (C, T, N)) (hin : ∀ w ∈ u_ws C T N, w ∈ ev_gd) (hk : kf < N) (hl : Cond.fieldLink own idx ref (T kf).2.1 (T kf).2.2.1 ∈ ev_gd) (hs : ref = (T kf).1 ∨ Cond.sameField ref (T kf).1 (T kf).2.1 (T kf).2.2.1 ∈ ev_gd) (hq : pc + 3 = q) : ev_ok P r pc (ev_get q ci kf) := by
  subst hq
  have hsame := ev_same X hs
  refine ok_of X hP fun k L S w n h => ?_
  obtain ⟨v, S', rfl, h1⟩ := ev_lc_some h
  obtain ⟨a, rfl, h2⟩ := ev_rc_some (v := v) h1
  obtain ⟨c0, hc0, h3⟩ := ev_oc_some h2
  obtain ⟨hb, h4⟩ := ev_bc_t h3
  obtain ⟨u, hu, h5⟩ := ev_oc_some h4
  rw [ev_at_eq] at hc0 hu
  obtain ⟨hx, hbb, hml, hown, hts, hK, -⟩ := X
  exact ⟨_, _, _, h5, fun H locs ls hH hl' hS kk => va_get hx hbb hts hin hown hK hH.1 a (ev_obj_at hc0 hb) hc kf hk (hts _ hl) hsame (v := ev_v ad u) (by rw [List.getElem?_map, hu]; rfl) hd (kk ls hl')⟩
theorem ok_getN (X : ev_X cc nL own rt p s m args meth c D G ad A z) (hP : ev_PP p l e R s m args below meth c Q nL D G ad A z wE nE P) {ci kf N : Nat} {ref C host : String} {T : u_T} (hd : decode cc pc = .ok (.getfield idx, 3)) (hc : vwCl[ci]? = some (C, T, N)) (hin : ∀ w ∈ u_ws C T N, w ∈ ev_gd) (hk : kf < N) (hl : Cond.fieldLinkNest own idx ref (T kf).2.1 (T kf).2.2.1 host ∈ ev_nw) (hs : ref = (T kf).1 ∨ Cond.sameField ref (T kf).1 (T kf).2.1 (T kf).2.2.1 ∈ ev_gd) (hq : pc + 3 = q) : ev_ok P r pc (ev_get q ci kf) := by
  subst hq
  have hsame := ev_same X hs
  refine ok_of X hP fun k L S w n h => ?_
  obtain ⟨v, S', rfl, h1⟩ := ev_lc_some h
  obtain ⟨a, rfl, h2⟩ := ev_rc_some (v := v) h1
  obtain ⟨c0, hc0, h3⟩ := ev_oc_some h2
  obtain ⟨hb, h4⟩ := ev_bc_t h3
  obtain ⟨u, hu, h5⟩ := ev_oc_some h4
  rw [ev_at_eq] at hc0 hu
  obtain ⟨hx, hbb, hml, hown, hts, hK, hAO, hNW, -⟩ := X
  exact ⟨_, _, _, h5, fun H locs ls hH hl' hS kk => va_getN hx hbb hts hin hown hK hH.1 a (ev_obj_at hc0 hb) hc kf hk (va_Nw.use rfl (hNW.1 _ hl)) hsame (v := ev_v ad u) (by rw [List.getElem?_map, hu]; rfl) hd (kk ls hl')⟩
/-- what the heap holds behind a store into a field -/
theorem ev_put_at {ci kf N : Nat} {C : String} {T : u_T} {a : Nat} {cell : Cell} {fs : List Value} {v : Value} {H1 : Heap} (hc : vwCl[ci]? = some (C, T, N)) (e1 : H1[a]? = some (cell.setSlot ((D.2 ci) kf) v)) (q2 : cell.cls = D.1 ci) (q3 : cell.vm = .none) (q4 : ∀ k, k < N → cell.slots[(D.2 ci) k]? = some (vp_V fs k)) (hap : ∀ x y, x < N → y < N → x ≠ y → (D.2 ci) x ≠ (D.2 ci) y) (hk : kf < N) (hl : kf < fs.length) : va_at D vwCl (a, .inr (ci, fs.set kf v)) H1 :=
  ⟨_, hc, t_OB.to (V := updV (vp_V fs) kf v) ⟨_, e1, q2, q3, t_set q4 hap hk v⟩ (fun j _ => vp_updV_set hl v j)⟩
theorem ev_ptf_some {ci kf tq : Nat} {k : ev_G α} {L S : List Value} {w : ev_W} {n : Nat} {ty : FieldType} (hty : ev_tk ty tq = true) (h : ev_ptf q ci kf tq k L S w n = some r) : ∃ v S' a c0, S = v :: .ref a :: S' ∧ w[a]? = some c0 ∧ Nat.beq c0.1 (ci + 3) = true ∧ kf < c0.2.1 ∧ (narrow ty (ev_v ad v) = ev_v ad v ∧ fits ty (ev_v ad v) = true) ∧ k q L S' (w.set a (c0.1, c0.2.1, c0.2.2.set kf v)) n = some r := by
  obtain ⟨v, S1, rfl, h1⟩ := ev_lc_some h
  obtain ⟨u, S', rfl, h2⟩ := ev_lc_some (l := S1) h1
  obtain ⟨a, rfl, h3⟩ := ev_rc_some (v := u) h2
  obtain ⟨c0, hc0, h4⟩ := ev_oc_some h3
  obtain ⟨hb, h5⟩ := ev_bc_t h4
  obtain ⟨h6, hn⟩ := ev_fit_some (ad := ad) hty h5
  rw [ev_at_eq] at hc0
  rw [ev_set_eq, ev_set_eq] at h6
  rw [Bool.and_eq_true] at hb
  exact ⟨v, S', a, c0, rfl, hc0, hb.1, by rw [← Nat.blt_eq]; exact hb.2, hn, h6⟩
theorem ok_put (X : ev_X cc nL own rt p s m args meth c D G ad A z) (hP : ev_PP p l e R s m args below meth c Q nL D G ad A z wE nE P) {ci kf N tq : Nat} {ref C : String} {T : u_T} (tyf : Nat → FieldType) (hd : decode cc pc = .ok (.putfield idx, 3)) (hc : vwCl[ci]? = some (C, T, N)) (hin : ∀ w ∈ u_ws C T N, w ∈ ev_gd) (hty : ∀ k, k < N → parseFieldDescriptor (T k).2.2.1 = some (tyf k)) (hnm : ∀ a, a < N → ∀ b, b < N → a ≠ b → (T a).2.1 ≠ (T b).2.1) (hk : kf < N) (hl : Cond.fieldLink own idx ref (T kf).2.1 (T kf).2.2.1 ∈ ev_gd) (hs : ref = (T kf).1 ∨ Cond.sameField ref (T kf).1 (T kf).2.1 (T kf).2.2.1 ∈ ev_gd) (hfin : (T kf).2.2.2 = false) (htq : ev_tk (tyf kf) tq = true) (hq : pc + 3 = q) : ev_ok P r pc (ev_ptf q ci kf tq) := by
  subst hq
  have hsame := ev_same X hs
  refine ok_upd hP fun k L S w n h => ?_
  obtain ⟨v, S', a, c0, rfl, hc0, hb, hlt, ⟨hn, hfit⟩, h5⟩ := ev_ptf_some (ad := ad) htq h
  refine ⟨_, _, _, _, h5, fun H locs ls hH hl' hS0 kk => ?_⟩
  obtain ⟨hx, hbb, hml, hown, hts, hK, -⟩ := X
  have hap := va_apart (own := own) hts hin tyf hty hnm hK hc
  have he := ev_obj_at (G := G) (ad := ad) hc0 hb
  obtain ⟨r', h1, cell, q1, q2, q3, q4⟩ := hH.1 a _ he
  have hr : r' = (C, T, N) := Option.some.inj (h1.symm.trans hc)
  subst hr
  obtain ⟨hS, hfc, kC, hkC, hkind⟩ := hK.1 ci _ hc
  obtain ⟨cf, kf', fi, f, hi, hsl⟩ := hS kf hk
  have hlay := hts _ (hin _ (u_in_lay hk))
  unfold u_lay at hlay
  rw [if_neg (by rw [hfin]; decide)] at hlay
  have hst := (u_facts hfc hkC (u_lays hts hin hk) hi).1
  have h6 := u_store hfc hkC hkind hlay hi (hty kf hk) hn hfit
  have hw := hH.2.2.1 c0 (List.mem_of_getElem? hc0)
  refine W.putK hx hbb (f := f) ⟨hown, hts _ hl, ⟨_, _, _, hsame _ hi⟩, hst⟩ (by rw [q2]; exact h6) q1 q3 (by rw [hsl]; exact k2_hasslot (q4 kf hk)) rfl rfl hd fun H' e1 e2 e3 => ?_
  rw [hsl] at e1 ⊢
  refine kk H' _ (ev_H_set hH hc0 ?_ e2 e3 ⟨by rw [List.length_set]; exact hw.1, hw.2⟩) (hS0.put e2 e3 (hH.2.1.2 a _ he))
  obtain ⟨t, N0, vs⟩ := c0
  have e : t = ci + 3 := Nat.eq_of_beq_eq_true hb
  subst e
  show va_at D vwCl (ad a, .inr (ci, (vs.set kf v).map (ev_v ad))) H'
  rw [List.map_set]
  exact ev_put_at hc e1 q2 q3 q4 hap hk (by rw [List.length_map, ← hw.1]; exact hlt)
theorem ok_putN (X : ev_X cc nL own rt p s m args meth c D G ad A z) (hP : ev_PP p l e R s m args below meth c Q nL D G ad A z wE nE P) {ci kf N tq : Nat} {ref C host : String} {T : u_T} (tyf : Nat → FieldType) (hd : decode cc pc = .ok (.putfield idx, 3)) (hc : vwCl[ci]? = some (C, T, N)) (hin : ∀ w ∈ u_ws C T N, w ∈ ev_gd) (hty : ∀ k, k < N → parseFieldDescriptor (T k).2.2.1 = some (tyf k)) (hnm : ∀ a, a < N → ∀ b, b < N → a ≠ b → (T a).2.1 ≠ (T b).2.1) (hk : kf < N) (hl : Cond.fieldLinkNest own idx ref (T kf).2.1 (T kf).2.2.1 host ∈ ev_nw) (hs : ref = (T kf).1 ∨ Cond.sameField ref (T kf).1 (T kf).2.1 (T kf).2.2.1 ∈ ev_gd) (hfin : (T kf).2.2.2 = false) (htq : ev_tk (tyf kf) tq = true) (hq : pc + 3 = q) : ev_ok P r pc (ev_ptf q ci kf tq) := by
  subst hq
  have hsame := ev_same X hs
  refine ok_upd hP fun k L S w n h => ?_
  obtain ⟨v, S', a, c0, rfl, hc0, hb, hlt, ⟨hn, hfit⟩, h5⟩ := ev_ptf_some (ad := ad) htq h
  refine ⟨_, _, _, _, h5, fun H locs ls hH hl' hS0 kk => ?_⟩
  obtain ⟨hx, hbb, hml, hown, hts, hK, hAO, hNW, -⟩ := X
  have hap := va_apart (own := own) hts hin tyf hty hnm hK hc
  have he := ev_obj_at (G := G) (ad := ad) hc0 hb
  obtain ⟨r', h1, cell, q1, q2, q3, q4⟩ := hH.1 a _ he
  have hr : r' = (C, T, N) := Option.some.inj (h1.symm.trans hc)
  subst hr
  obtain ⟨hS, hfc, kC, hkC, hkind⟩ := hK.1 ci _ hc
  obtain ⟨cf, kf', fi, f, hi, hsl⟩ := hS kf hk
  have hlay := hts _ (hin _ (u_in_lay hk))
  unfold u_lay at hlay
  rw [if_neg (by rw [hfin]; decide)] at hlay
  have hst := (u_facts hfc hkC (u_lays hts hin hk) hi).1
  have h6 := u_store hfc hkC hkind hlay hi (hty kf hk) hn hfit
  have hw := hH.2.2.1 c0 (List.mem_of_getElem? hc0)
  refine va_WputK hx hbb (f := f) hown (va_Nw.use rfl (hNW.1 _ hl)) (hsame _ hi) hst (by rw [q2]; exact h6) q1 q3 (by rw [hsl]; exact k2_hasslot (q4 kf hk)) rfl rfl hd fun H' e1 e2 e3 => ?_
  rw [hsl] at e1 ⊢
  refine kk H' _ (ev_H_set hH hc0 ?_ e2 e3 ⟨by rw [List.length_set]; exact hw.1, hw.2⟩) (hS0.put e2 e3 (hH.2.1.2 a _ he))
  obtain ⟨t, N0, vs⟩ := c0
  have e : t = ci + 3 := Nat.eq_of_beq_eq_true hb
  subst e
  show va_at D vwCl (ad a, .inr (ci, (vs.set kf v).map (ev_v ad))) H'
  rw [List.map_set]
  exact ev_put_at hc e1 q2 q3 q4 hap hk (by rw [List.length_map, ← hw.1]; exact hlt)
theorem ok_putF (X : ev_X cc nL own rt p s m args meth c D G ad A z) (hP : ev_PP p l e R s m args below meth c Q nL D G ad A z wE nE P) (hin2 : meth.name = "<init>") {ci kf N tq : Nat} {ref C : String} {T : u_T} (tyf : Nat → FieldType) (hd : decode cc pc = .ok (.putfield idx, 3)) (hc : vwCl[ci]? = some (C, T, N)) (hin : ∀ w ∈ u_ws C T N, w ∈ ev_gd) (hty : ∀ k, k < N → parseFieldDescriptor (T k).2.2.1 = some (tyf k)) (hnm : ∀ a, a < N → ∀ b, b < N → a ≠ b → (T a).2.1 ≠ (T b).2.1) (hk : kf < N) (hl : Cond.fieldLink own idx ref (T kf).2.1 (T kf).2.2.1 ∈ ev_gd) (hs : ref = (T kf).1 ∨ Cond.sameField ref (T kf).1 (T kf).2.1 (T kf).2.2.1 ∈ ev_gd) (hfin : (T kf).2.2.2 = true) (hdecl : (T kf).1 = own) (htq : ev_tk (tyf kf) tq = true) (hq : pc + 3 = q) : ev_ok P r pc (ev_ptf q ci kf tq) := by
  subst hq
  have hsame := ev_same X hs
  refine ok_upd hP fun k L S w n h => ?_
  obtain ⟨v, S', a, c0, rfl, hc0, hb, hlt, ⟨hn, hfit⟩, h5⟩ := ev_ptf_some (ad := ad) htq h
  refine ⟨_, _, _, _, h5, fun H locs ls hH hl' hS0 kk => ?_⟩
  obtain ⟨hx, hbb, hml, hown, hts, hK, -⟩ := X
  have hap := va_apart (own := own) hts hin tyf hty hnm hK hc
  have he := ev_obj_at (G := G) (ad := ad) hc0 hb
  obtain ⟨r', h1, cell, q1, q2, q3, q4⟩ := hH.1 a _ he
  have hr : r' = (C, T, N) := Option.some.inj (h1.symm.trans hc)
  subst hr
  obtain ⟨hS, hfc, kC, hkC, hkind⟩ := hK.1 ci _ hc
  obtain ⟨cf, kf', fi, f, hi, hsl⟩ := hS kf hk
  have hlay := hts _ (hin _ (u_in_lay hk))
  unfold u_lay at hlay
  rw [if_pos hfin] at hlay
  have hst := (u_facts hfc hkC (u_lays hts hin hk) hi).1
  have hcf : m.cls = cf := by
    obtain ⟨_, _, c', _, _, _, -, -, hf', -, -, -, hown2, -⟩ := Cond.laysFinal_spec hlay
    have e1 : c' = cf := by have := hi.symm.trans hf'; simp at this; exact this.1.symm
    rw [hdecl] at hown2
    rw [← e1]; exact Option.some.inj (hown.symm.trans hown2)
  have h6 := u_fits hfc hkC hkind (Or.inr hlay) hi (hty kf hk) hn hfit
  have hw := hH.2.2.1 c0 (List.mem_of_getElem? hc0)
  refine W.putFinK hx hbb hown (hts _ hl) (hsame _ hi) hst hcf hin2 (by rw [q2]; exact h6) q1 q3 (by rw [hsl]; exact k2_hasslot (q4 kf hk)) rfl rfl hd fun H' e1 e2 e3 => ?_
  rw [hsl] at e1 ⊢
  refine kk H' _ (ev_H_set hH hc0 ?_ e2 e3 ⟨by rw [List.length_set]; exact hw.1, hw.2⟩) (hS0.put e2 e3 (hH.2.1.2 a _ he))
  obtain ⟨t, N0, vs⟩ := c0
  have e : t = ci + 3 := Nat.eq_of_beq_eq_true hb
  subst e
  show va_at D vwCl (ad a, .inr (ci, (vs.set kf v).map (ev_v ad))) H'
  rw [List.map_set]
  exact ev_put_at hc e1 q2 q3 q4 hap hk (by rw [List.length_map, ← hw.1]; exact hlt)
theorem ev_pl_some {w : ev_W} {a : Nat} {y : Option α} {r : α} (h : ev_pl w a y = some r) : y = some r ∧ ∀ j, a = j + 1 → ∃ c, w[j]? = some c := by
  cases a with
  | zero => exact ⟨h, fun j hj => by cases hj⟩
  | succ a =>
    obtain ⟨c, hc, h1⟩ := ev_oc_some (show ev_oc (ev_at w a) (fun _ => y) = some r from h)
    rw [ev_at_eq] at hc
    exact ⟨h1, fun j hj => by cases hj; exact ⟨c, hc⟩⟩
theorem ok_acmp_eq (X : ev_X cc nL own rt p s m args meth c D G ad A z) (hP : ev_PP p l e R s m args below meth c Q nL D G ad A z wE nE P) {t : Nat} {off : Int} (hd : decode cc pc = .ok (.if_acmp .eq off, 3)) (ht : (pc : Int) + off = (t : Int)) (hq : pc + 3 = q) : ev_ok P r pc (ev_acm t q) := by
  subst hq
  refine ok_of X hP fun k L S w n h => ?_
  obtain ⟨v, S1, rfl, h1⟩ := ev_lc_some h
  obtain ⟨u, S', rfl, h2⟩ := ev_lc_some (l := S1) h1
  obtain ⟨hx, hbb, -⟩ := X
  rcases ev_rn_some (v := v) h2 with ⟨rfl, h3⟩ | ⟨y, rfl, h3⟩ <;> rcases ev_rn_some (v := u) h3 with ⟨rfl, h4⟩ | ⟨x, rfl, h4⟩
  · exact ⟨t, L, S', h4, fun H locs ls hH hl hS kk => lv_acmp_eq (rx := none) (ry := none) hx hbb hd ht (fun _ => kk ls hl) (fun q => absurd rfl q)⟩
  · rcases ev_bc_some h4 with ⟨hb, h5⟩ | ⟨hb, h5⟩
    · exact absurd (Nat.eq_of_beq_eq_true hb) (by omega)
    · exact ⟨pc + 3, L, S', (ev_pl_some (ev_pl_some h5).1).1, fun H locs ls hH hl hS kk => lv_acmp_eq (rx := some (ad x)) (ry := none) hx hbb hd ht (fun q => by cases q) (fun _ => kk ls hl)⟩
  · rcases ev_bc_some h4 with ⟨hb, h5⟩ | ⟨hb, h5⟩
    · exact absurd (Nat.eq_of_beq_eq_true hb) (by omega)
    · exact ⟨pc + 3, L, S', (ev_pl_some (ev_pl_some h5).1).1, fun H locs ls hH hl hS kk => lv_acmp_eq (rx := none) (ry := some (ad y)) hx hbb hd ht (fun q => by cases q) (fun _ => kk ls hl)⟩
  · rcases ev_bc_some h4 with ⟨hb, h5⟩ | ⟨hb, h5⟩
    · have h9 : x + 1 = y + 1 := Nat.eq_of_beq_eq_true hb
      have e : x = y := Nat.succ.inj h9
      subst e
      exact ⟨t, L, S', h5, fun H locs ls hH hl hS kk => lv_acmp_eq (rx := some (ad x)) (ry := some (ad x)) hx hbb hd ht (fun _ => kk ls hl) (fun q => absurd rfl q)⟩
    · obtain ⟨h6, g1⟩ := ev_pl_some h5
      obtain ⟨h7, g2⟩ := ev_pl_some h6
      obtain ⟨c1, e1⟩ := g1 y rfl
      obtain ⟨c2, e2⟩ := g2 x rfl
      have hne : ¬ x = y := fun e => by subst e; rw [Nat.beq_refl] at hb; cases hb
      exact ⟨pc + 3, L, S', h7, fun H locs ls hH hl hS kk => lv_acmp_eq (rx := some (ad x)) (ry := some (ad y)) hx hbb hd ht (fun q => absurd (hH.2.1.1 x y _ _ (ev_w_at (G := G) (ad := ad) e2) (ev_w_at (G := G) (ad := ad) e1) (Option.some.inj q)) hne) (fun _ => kk ls hl)⟩
theorem ok_mx (X : ev_X cc nL own rt p s m args meth c D G ad A z) (hP : ev_PP p l e R s m args below meth c Q nL D G ad A z wE nE P) (hR : wE - z ≤ R.cells ∧ nE ≤ R.slots) (hR1 : 1 ≤ R.frames) (hR2 : 21 ≤ R.locals) (hd : decode cc pc = .ok (.invokestatic idx, 3)) (h1 : Cond.methodLink own idx Lib.Math.max.name ∈ ev_gd) (h2 : Cond.static Lib.Math.max.name ∈ ev_gd) (h3 : Cond.initialized "java/lang/Math" ∈ ev_gd) (h4 : Cond.code Lib.Math.max.name Lib.Math.max.code 2 (some .int) ∈ ev_gd) (hq : pc + 3 = q) : ev_ok P r pc (ev_mx q) := by
  subst hq
  intro k L S w n hk h
  obtain ⟨v, S1, rfl, h5⟩ := ev_lc_some h
  obtain ⟨u, S', rfl, h6⟩ := ev_lc_some (l := S1) h5
  obtain ⟨y, rfl, h7⟩ := ev_ic_some (v := v) h6
  obtain ⟨x, rfl, h8⟩ := ev_ic_some (v := u) h7
  obtain ⟨hb, h9⟩ := ev_bc_t h8
  rw [Nat.ble_eq, ev_len_eq] at hb
  rw [hP]
  intro hz
  obtain ⟨hm, h10⟩ := (hP _ _ _ _ _).mp (hk _ _ _ _ _ h9) hz
  obtain ⟨hx, hbb, hml, hown, hts, -⟩ := X
  refine ⟨hm, fun H locs ls hH hl hS => ?_⟩
  have hsum := ev_sum (ad := ad) hb
  refine va_mmax hx hbb (hml.trans hl.1.symm) hown (hts _ h1) (hts _ h2) (hts _ h3) (hts _ h4) hR1 (by omega) (by omega) (by omega) hd ?_
  have e : (if x < y then y else x) = cond (Nat.blt (ev_sg x) (ev_sg y)) y x := by
    by_cases hlt : x < y
    · rw [if_pos hlt, ev_lt_iff.mpr hlt]; rfl
    · rw [if_neg hlt]
      cases hbl : Nat.blt (ev_sg x) (ev_sg y) with
      | true => exact absurd (ev_lt_iff.mp hbl) hlt
      | false => rfl
  rw [e]
  exact h10 H locs ls hH hl hS
end HOPS
end
section
/-! arrays, new cells, casts, returns -/
section AOPS
variable {p : Program} {l : Launch} {e : Env} {R : Room} {s : State} {m : MethodId} {args : Array Value} {below : List Frame} {meth : Method} {c : Code} {Q : State → Prop}
variable {cc : ByteArray} {nL : Nat} {own : String} {rt : Option FieldType} {D : va_G} {G : Nat → ClassId} {ad : Nat → Nat} {A : Nat → Prop} {z wE nE : Nat} {α : Type} {r : α} {P : Nat → List Value → List Value → ev_W → Nat → Prop} {pc q i idx : Nat}
theorem ok_ialoads (X : ev_X cc nL own rt p s m args meth c D G ad A z) (hP : ev_PP p l e R s m args below meth c Q nL D G ad A z wE nE P) (hd : decode cc pc = .ok (.iaload, 1)) (hq : pc + 1 = q) : ev_ok P r pc (ev_ldi q 0) := by
  subst hq
  refine ok_of X hP fun k L S w n h => ?_
  obtain ⟨v, S1, rfl, h1⟩ := ev_lc_some h
  obtain ⟨u, S', rfl, h2⟩ := ev_lc_some (l := S1) h1
  obtain ⟨i, rfl, h3⟩ := ev_ic_some (v := v) h2
  obtain ⟨a, rfl, h4⟩ := ev_rc_some (v := u) h3
  obtain ⟨c0, hc0, h5⟩ := ev_oc_some h4
  obtain ⟨hb, h6⟩ := ev_bc_t h5
  obtain ⟨y, hy, h7⟩ := ev_oc_some h6
  obtain ⟨x, rfl, h8⟩ := ev_ic_some (v := y) h7
  rw [ev_at_eq] at hc0 hy
  rw [Bool.and_eq_true, Nat.blt_eq] at hb
  refine ⟨_, _, _, h8, fun H locs ls hH hl' hS kk => ?_⟩
  have hw := hH.2.2.1 c0 (List.mem_of_getElem? hc0)
  obtain ⟨hin, hi⟩ := ev_vpin hb.2 hw.2
  have he := ev_arr_at (G := G) (ad := ad) hc0 0 (Nat.eq_of_beq_eq_true hb.1)
  refine va_iald X.1 X.2.1 X.2.2.2.2.2.1 hH.1 a 0 he rfl hin hd ?_
  have ex : ev_iv (c0.2.2.getD i.toNatClampNeg .null) = x := by rw [hi, List.getD_eq_getElem?_getD, hy]; rfl
  rw [ex]
  exact kk ls hl'
theorem ok_baloads (X : ev_X cc nL own rt p s m args meth c D G ad A z) (hP : ev_PP p l e R s m args below meth c Q nL D G ad A z wE nE P) (hd : decode cc pc = .ok (.baload, 1)) (hq : pc + 1 = q) : ev_ok P r pc (ev_ldi q 1) := by
  subst hq
  refine ok_of X hP fun k L S w n h => ?_
  obtain ⟨v, S1, rfl, h1⟩ := ev_lc_some h
  obtain ⟨u, S', rfl, h2⟩ := ev_lc_some (l := S1) h1
  obtain ⟨i, rfl, h3⟩ := ev_ic_some (v := v) h2
  obtain ⟨a, rfl, h4⟩ := ev_rc_some (v := u) h3
  obtain ⟨c0, hc0, h5⟩ := ev_oc_some h4
  obtain ⟨hb, h6⟩ := ev_bc_t h5
  obtain ⟨y, hy, h7⟩ := ev_oc_some h6
  obtain ⟨x, rfl, h8⟩ := ev_ic_some (v := y) h7
  rw [ev_at_eq] at hc0 hy
  rw [Bool.and_eq_true, Nat.blt_eq] at hb
  refine ⟨_, _, _, h8, fun H locs ls hH hl' hS kk => ?_⟩
  have hw := hH.2.2.1 c0 (List.mem_of_getElem? hc0)
  obtain ⟨hin, hi⟩ := ev_vpin hb.2 hw.2
  have he := ev_arr_at (G := G) (ad := ad) hc0 1 (Nat.eq_of_beq_eq_true hb.1)
  refine va_zald X.1 X.2.1 X.2.2.2.2.2.1 hH.1 a 1 he rfl hin hd ?_
  have ex : ev_iv (c0.2.2.getD i.toNatClampNeg .null) = x := by rw [hi, List.getD_eq_getElem?_getD, hy]; rfl
  rw [ex]
  exact kk ls hl'
theorem ok_aaloads (X : ev_X cc nL own rt p s m args meth c D G ad A z) (hP : ev_PP p l e R s m args below meth c Q nL D G ad A z wE nE P) (hd : decode cc pc = .ok (.aaload, 1)) (hq : pc + 1 = q) : ev_ok P r pc (ev_ldq q) := by
  subst hq
  refine ok_of X hP fun k L S w n h => ?_
  obtain ⟨v, S1, rfl, h1⟩ := ev_lc_some h
  obtain ⟨u, S', rfl, h2⟩ := ev_lc_some (l := S1) h1
  obtain ⟨i, rfl, h3⟩ := ev_ic_some (v := v) h2
  obtain ⟨a, rfl, h4⟩ := ev_rc_some (v := u) h3
  obtain ⟨c0, hc0, h5⟩ := ev_oc_some h4
  obtain ⟨hb, h6⟩ := ev_bc_t h5
  obtain ⟨y, hy, h7⟩ := ev_oc_some h6
  obtain ⟨hyk, h8⟩ := ev_pc_some h7
  rw [ev_at_eq] at hc0 hy
  rw [Bool.and_eq_true, Nat.blt_eq] at hb
  refine ⟨_, _, _, h8, fun H locs ls hH hl' hS kk => ?_⟩
  have hw := hH.2.2.1 c0 (List.mem_of_getElem? hc0)
  obtain ⟨hin, hi⟩ := ev_vpin hb.2 hw.2
  have he := ev_arr_at (G := G) (ad := ad) hc0 2 (Nat.eq_of_beq_eq_true hb.1)
  refine va_aldq X.1 X.2.1 X.2.2.2.2.2.1 hH.1 a 2 he rfl hin hd ?_
  have ex : va_rf (ev_rv ad (c0.2.2.getD i.toNatClampNeg .null)) = ev_v ad y := by
    rw [hi, List.getD_eq_getElem?_getD, hy]
    rcases hyk with rfl | ⟨x, rfl⟩ <;> rfl
  rw [ex]
  exact kk ls hl'
theorem ok_aln (X : ev_X cc nL own rt p s m args meth c D G ad A z) (hP : ev_PP p l e R s m args below meth c Q nL D G ad A z wE nE P) (hd : decode cc pc = .ok (.arraylength, 1)) (hq : pc + 1 = q) : ev_ok P r pc (ev_aln q) := by
  subst hq
  refine ok_of X hP fun k L S w n h => ?_
  obtain ⟨v, S', rfl, h1⟩ := ev_lc_some h
  obtain ⟨a, rfl, h2⟩ := ev_rc_some (v := v) h1
  obtain ⟨c0, hc0, h3⟩ := ev_oc_some h2
  obtain ⟨hb, h4⟩ := ev_bc_t h3
  rw [ev_at_eq] at hc0
  rw [Nat.blt_eq] at hb
  refine ⟨_, _, _, h4, fun H locs ls hH hl' hS kk => ?_⟩
  have h3 : c0.1 = 0 ∨ c0.1 = 1 ∨ c0.1 = 2 := by omega
  rcases h3 with h3 | h3 | h3
  · exact va_alen X.1 X.2.1 X.2.2.2.2.2.1 hH.1 a 0 (ev_arr_at (G := G) (ad := ad) hc0 0 h3) (ty := .int) rfl rfl hd (kk ls hl')
  · exact va_alen X.1 X.2.1 X.2.2.2.2.2.1 hH.1 a 1 (ev_arr_at (G := G) (ad := ad) hc0 1 h3) (ty := .boolean) rfl rfl hd (kk ls hl')
  · exact va_alen X.1 X.2.1 X.2.2.2.2.2.1 hH.1 a 2 (ev_arr_at (G := G) (ad := ad) hc0 2 h3) (ty := .object "java/lang/Object") rfl rfl hd (kk ls hl')
/-- a store into a row of numbers: what the cell is then -/
theorem ev_upd_eq {vs : List Value} {j : Nat} {x : Int32} (hj : j < vs.length) : upd (fun j => ev_iv (vs.getD j .null)) j x = fun k => ev_iv ((vs.set j (.int x)).getD k .null) := by
  funext k
  unfold upd
  by_cases h : k = j
  · subst h
    rw [if_pos rfl, List.getD_eq_getElem?_getD, List.getElem?_set_self hj]; rfl
  · rw [if_neg h]
    show ev_iv (vs.getD k .null) = _
    rw [List.getD_eq_getElem?_getD, List.getD_eq_getElem?_getD, List.getElem?_set_ne (fun q => h q.symm)]
theorem ev_sti_some {t : Nat} {g : Int32 → Int32} {k : ev_G α} {L S : List Value} {w : ev_W} {n : Nat} (h : ev_sti q t g k L S w n = some r) : ∃ x i a S' c0, S = .int x :: .int i :: .ref a :: S' ∧ w[a]? = some c0 ∧ c0.1 = t ∧ ev_bits i < c0.2.1 ∧ k q L S' (w.set a (c0.1, c0.2.1, c0.2.2.set (ev_bits i) (.int (g x)))) n = some r := by
  obtain ⟨y, S0, rfl, h1⟩ := ev_lc_some h
  obtain ⟨v, S1, rfl, h2⟩ := ev_lc_some (l := S0) h1
  obtain ⟨u, S', rfl, h3⟩ := ev_lc_some (l := S1) h2
  obtain ⟨x, rfl, h4⟩ := ev_ic_some (v := y) h3
  obtain ⟨i, rfl, h5⟩ := ev_ic_some (v := v) h4
  obtain ⟨a, rfl, h6⟩ := ev_rc_some (v := u) h5
  obtain ⟨c0, hc0, h7⟩ := ev_oc_some h6
  obtain ⟨hb, h8⟩ := ev_bc_t h7
  rw [ev_at_eq] at hc0
  rw [ev_set_eq, ev_set_eq] at h8
  rw [Bool.and_eq_true, Nat.blt_eq] at hb
  exact ⟨x, i, a, S', c0, rfl, hc0, Nat.eq_of_beq_eq_true hb.1, hb.2, h8⟩
theorem ok_iastores (X : ev_X cc nL own rt p s m args meth c D G ad A z) (hP : ev_PP p l e R s m args below meth c Q nL D G ad A z wE nE P) (hd : decode cc pc = .ok (.iastore, 1)) (hq : pc + 1 = q) : ev_ok P r pc (ev_sti q 0 (fun x => x)) := by
  subst hq
  refine ok_upd hP fun k L S w n h => ?_
  obtain ⟨x, i, a, S', c0, rfl, hc0, ht, hlt, h8⟩ := ev_sti_some h
  refine ⟨_, _, _, _, h8, fun H locs ls hH hl' hS0 kk => ?_⟩
  have hw := hH.2.2.1 c0 (List.mem_of_getElem? hc0)
  obtain ⟨hin, hi⟩ := ev_vpin hlt hw.2
  have he := ev_arr_at (G := G) (ad := ad) hc0 0 ht
  obtain ⟨hx, hbb, hml, hown, hts, hK, -⟩ := X
  obtain ⟨t, N, vs⟩ := c0
  cases ht
  refine W.iast hx hbb (hH.1 a _ he) ((hK.2 0 _ rfl).1 N (fun j => .int (ev_iv (vs.getD j .null)))) (fun q => by cases q) (by show ¬ (i < 0 ∨ (arrV _ _ _).slots.size ≤ _); rw [arrV_size]; exact hin) rfl rfl hd fun H1 e1 e2 e3 => ?_
  refine kk H1 _ (ev_H_set hH hc0 ?_ e2 e3 ⟨by rw [List.length_set]; exact hw.1, hw.2⟩) (hS0.put e2 e3 (hH.2.1.2 a _ he))
  show H1[ad a]? = some (vp_cell (G 0) (N, .inl (fun j => ev_iv ((vs.set (ev_bits i) (.int x)).getD j .null))))
  rw [e1]
  show some ((vp_cell (G 0) (N, .inl (fun j => ev_iv (vs.getD j .null)))).setSlot _ _) = _
  rw [← ev_upd_eq (by rw [← hw.1]; exact hlt), vp_cell_i, vp_cell_i, arrV_store, hi]
  congr 2
  funext q
  by_cases hq : q = ev_bits i
  · subst hq
    simp [updV, upd]
  · simp [updV, upd, hq]
theorem ok_bastores (X : ev_X cc nL own rt p s m args meth c D G ad A z) (hP : ev_PP p l e R s m args below meth c Q nL D G ad A z wE nE P) (hd : decode cc pc = .ok (.bastore, 1)) (hq : pc + 1 = q) : ev_ok P r pc (ev_sti q 1 (fun x => vp_nar .boolean x)) := by
  subst hq
  refine ok_upd hP fun k L S w n h => ?_
  obtain ⟨x, i, a, S', c0, rfl, hc0, ht, hlt, h8⟩ := ev_sti_some h
  refine ⟨_, _, _, _, h8, fun H locs ls hH hl' hS0 kk => ?_⟩
  have hw := hH.2.2.1 c0 (List.mem_of_getElem? hc0)
  obtain ⟨hin, hi⟩ := ev_vpin hlt hw.2
  have he := ev_arr_at (G := G) (ad := ad) hc0 1 ht
  obtain ⟨hx, hbb, hml, hown, hts, hK, -⟩ := X
  obtain ⟨t, N, vs⟩ := c0
  cases ht
  refine W.zast hx hbb (hH.1 a _ he) ((hK.2 1 _ rfl).1 N (fun j => .int (ev_iv (vs.getD j .null)))) (fun q => by cases q) (by show ¬ (i < 0 ∨ (arrV _ _ _).slots.size ≤ _); rw [arrV_size]; exact hin) rfl rfl hd fun H1 e1 e2 e3 => ?_
  refine kk H1 _ (ev_H_set hH hc0 ?_ e2 e3 ⟨by rw [List.length_set]; exact hw.1, hw.2⟩) (hS0.put e2 e3 (hH.2.1.2 a _ he))
  show H1[ad a]? = some (vp_cell (G 1) (N, .inl (fun j => ev_iv ((vs.set (ev_bits i) (.int (vp_nar .boolean x))).getD j .null))))
  rw [e1]
  show some ((vp_cell (G 1) (N, .inl (fun j => ev_iv (vs.getD j .null)))).setSlot _ _) = _
  rw [← ev_upd_eq (by rw [← hw.1]; exact hlt), vp_cell_i, vp_cell_i, arrV_store, hi]
  congr 2
  funext q
  by_cases hq : q = ev_bits i
  · subst hq
    simp [updV, upd, vp_nar, narrow]
  · simp [updV, upd, hq]
theorem ev_upq_eq {vs : List Value} {j : Nat} {v : Value} (hj : j < vs.length) : va_up (fun j => ev_rv ad (vs.getD j .null)) j (ev_rv ad v) = fun k => ev_rv ad ((vs.set j v).getD k .null) := by
  funext k
  unfold va_up
  by_cases h : k = j
  · subst h
    rw [if_pos rfl, List.getD_eq_getElem?_getD, List.getElem?_set_self hj]; rfl
  · rw [if_neg h]
    show ev_rv ad (vs.getD k .null) = _
    rw [List.getD_eq_getElem?_getD, List.getD_eq_getElem?_getD, List.getElem?_set_ne (fun q => h q.symm)]
theorem ok_aastores (X : ev_X cc nL own rt p s m args meth c D G ad A z) (hP : ev_PP p l e R s m args below meth c Q nL D G ad A z wE nE P) {ci : Nat} {C : vw_C} (hd : decode cc pc = .ok (.aastore, 1)) (hc : vwCl[ci]? = some C) (h1 : Cond.castable C.1 "java/lang/Object" ∈ ev_nw) (h2 : Cond.castable "[I" "java/lang/Object" ∈ ev_nw) (hq : pc + 1 = q) : ev_ok P r pc (ev_stq q (ci + 3)) := by
  subst hq
  refine ok_upd hP fun k L S w n h => ?_
  obtain ⟨y, S0, rfl, g1⟩ := ev_lc_some h
  obtain ⟨v, S1, rfl, g2⟩ := ev_lc_some (l := S0) g1
  obtain ⟨u, S', rfl, g3⟩ := ev_lc_some (l := S1) g2
  obtain ⟨i, rfl, g4⟩ := ev_ic_some (v := v) g3
  obtain ⟨a, rfl, g5⟩ := ev_rc_some (v := u) g4
  obtain ⟨c0, hc0, g6⟩ := ev_oc_some g5
  obtain ⟨hb, g7⟩ := ev_bc_t g6
  rw [ev_at_eq] at hc0
  rw [ev_set_eq, ev_set_eq] at g7
  rw [Bool.and_eq_true, Nat.blt_eq] at hb
  have ht := Nat.eq_of_beq_eq_true hb.1
  have hlt := hb.2
  have hy : (y = .null ∨ ∃ x, y = .ref x ∧ ∃ d0, w[x]? = some d0 ∧ (d0.1 = 0 ∨ d0.1 = ci + 3)) ∧ k (pc + 1) L S' (w.set a (c0.1, c0.2.1, c0.2.2.set (ev_bits i) y)) n = some r := by
    rcases ev_rn_some (v := y) g7 with ⟨rfl, g8⟩ | ⟨x, rfl, g8⟩
    · refine ⟨Or.inl rfl, ?_⟩
      exact g8
    · obtain ⟨d0, hd0, g9⟩ := ev_oc_some (show ev_oc (ev_at w x) _ = some r from g8)
      obtain ⟨hk, g10⟩ := ev_bc_t g9
      rw [ev_at_eq] at hd0
      rw [Bool.or_eq_true] at hk
      refine ⟨Or.inr ⟨x, rfl, d0, hd0, ?_⟩, g10⟩
      rcases hk with hk | hk
      · exact Or.inl (Nat.eq_of_beq_eq_true hk)
      · exact Or.inr (Nat.eq_of_beq_eq_true hk)
  obtain ⟨hy, h8⟩ := hy
  refine ⟨_, _, _, _, h8, fun H locs ls hH hl' hS0 kk => ?_⟩
  have hw := hH.2.2.1 c0 (List.mem_of_getElem? hc0)
  obtain ⟨hin, hi⟩ := ev_vpin hlt hw.2
  have he := ev_arr_at (G := G) (ad := ad) hc0 2 ht
  obtain ⟨hx, hbb, hml, hown, hts, hK, hAO, hNW, -⟩ := X
  have h0 : ¬ i < 0 := fun q => hin (Or.inl q)
  have hlt2 : i.toNatClampNeg < c0.2.1 := by rw [hi]; exact hlt
  obtain ⟨t, N, vs⟩ := c0
  cases ht
  have fin : ∀ (H1 : Heap) (locs1 : List Loc), H1[ad a]? = some ((vp_cell (G 2) (N, .inr (.inr (.inr (.inr (fun j => ev_rv ad (vs.getD j .null))))))).setSlot i.toNatClampNeg (ev_v ad y)) → H1.size = H.size → (∀ q, q ≠ ad a → H1[q]? = H[q]?) → ev_H D G ad A (w.set a (2, N, vs.set (ev_bits i) y)) H1 := by
    intro H1 locs1 e1 e2 e3
    refine ev_H_set hH hc0 ?_ e2 e3 ⟨by rw [List.length_set]; exact hw.1, hw.2⟩
    show H1[ad a]? = some (vp_cell (G 2) (N, .inr (.inr (.inr (.inr (fun j => ev_rv ad ((vs.set (ev_bits i) y).getD j .null)))))))
    rw [e1, ← ev_upq_eq (by rw [← hw.1]; exact hlt), vp_cell_q, vp_cell_q, arrV_store, hi]
    congr 2
    funext q
    by_cases hq : q = ev_bits i
    · subst hq
      rcases hy with rfl | ⟨x, rfl, -⟩ <;> simp [updV, va_up, va_rf, ev_rv, ev_v]
    · simp [updV, va_up, hq]
  obtain ⟨kA, comp, k1, k2, k3, -⟩ := (hK.2 2 _ rfl).2
  rcases hy with rfl | ⟨x, rfl, d0, hd0, hdk⟩
  · refine va_WaastN (C := "java/lang/Object") hx hbb (hH.1 a _ he) ((hK.2 2 _ rfl).1 N (fun j => va_rf (ev_rv ad (vs.getD j .null)))) (fun h => by cases h) (by show ¬ (i < 0 ∨ (arrV _ _ _).slots.size ≤ _); rw [arrV_size]; exact hin) rfl rfl hd fun H1 e1 e2 e3 => ?_
    exact kk H1 _ (fin H1 [] e1 e2 e3) (hS0.put e2 e3 (hH.2.1.2 a _ he))
  · have hr : va_Any "java/lang/Object" s H (ad x) := by
      rcases hdk with hdk | hdk
      · have hv := hH.1 x _ (ev_arr_at (G := G) (ad := ad) hd0 0 hdk)
        obtain ⟨c1, t1, f1, f2, f3⟩ := Cond.castable_spec (va_Nw.use (A := args) rfl (hNW.1 _ h2))
        have hI : s.vm.findClass "[I" = some (G 0) := (hK.2 0 _ rfl).2
        cases hI.symm.trans f1
        obtain ⟨kI, hkI, -⟩ := Vm.findClass_spec hI
        refine ⟨_, hv, rfl, ⟨kI, hkI⟩, fun comp h => ?_⟩
        cases f2.symm.trans h
        exact f3
      · have hv := ev_obj_at (G := G) (ad := ad) hd0 (by rw [hdk]; exact Nat.beq_refl _)
        obtain ⟨c1, t1, f1, f2, f3⟩ := Cond.castable_spec (va_Nw.use (A := args) rfl (hNW.1 _ h1))
        refine va_rAny hK hH.1 hv hc fun comp c2 m1 m2 => ?_
        cases f2.symm.trans m1
        cases f1.symm.trans m2
        exact f3
    obtain ⟨cellV, v1, v3, ⟨kC, hkC⟩, hasg⟩ := hr
    obtain ⟨kE, hkE, -⟩ := Vm.findClass_spec k3
    refine W.aast hx hbb (hH.1 a _ he) (fun q h => by cases h) (fun h => by cases h) k1 k2 rfl hkE ⟨h0, by show _ < (arrV _ _ _).slots.size; rw [arrV_size]; exact hlt2⟩ v1 (fun q h => by rw [h] at v3; cases v3) hkC (hasg _ k3) rfl rfl hd fun H1 e1 e2 e3 => ?_
    exact kk H1 _ (fin H1 [] e1 e2 e3) (hS0.put e2 e3 (hH.2.1.2 a _ he))
/-- a new row of numbers -/
theorem ev_nwa_some {t : Nat} {v0 : Value} {k : ev_G α} {L S : List Value} {w : ev_W} {n : Nat} (h : ev_nwa q t v0 k L S w n = some r) : ∃ i S', S = .int i :: S' ∧ ev_bits i < 100000 ∧ k q L (.ref w.length :: S') (w ++ [(t, ev_bits i, List.replicate (ev_bits i) v0)]) (n + ev_bits i) = some r := by
  obtain ⟨v, S', rfl, h1⟩ := ev_lc_some h
  obtain ⟨i, rfl, h2⟩ := ev_ic_some (v := v) h1
  obtain ⟨hb, h3⟩ := ev_bc_t h2
  rw [Nat.blt_eq] at hb
  rw [ev_len_eq] at h3
  exact ⟨i, S', rfl, hb, h3⟩
theorem ok_newarray (X : ev_X cc nL own rt p s m args meth c D G ad A z) (hP : ev_PP p l e R s m args below meth c Q nL D G ad A z wE nE P) (hR : wE - z ≤ R.cells ∧ nE ≤ R.slots) {t : Nat} {at' : ArrayType} {ty : FieldType} (hd : decode cc pc = .ok (.newarray at', 2)) (hcase : (t = 0 ∧ at' = .int ∧ ty = .int) ∨ (t = 1 ∧ at' = .boolean ∧ ty = .boolean)) (hw : Cond.arrayClass ty ∈ ev_gd) (hq : pc + 2 = q) : ev_ok P r pc (ev_nwa q t (.int 0)) := by
  subst hq
  refine ok_push hP hR fun k L S w n h => ?_
  obtain ⟨i, S', rfl, hb, h3⟩ := ev_nwa_some h
  refine ⟨_, _, _, _, h3, fun H locs ls hz hc1 hs1 hH hl' hS kk => ?_⟩
  obtain ⟨hx, hbb, hml, hown, hts, hK, hAO, hNW, hZ, hA, -, -, had⟩ := X
  obtain ⟨h0, hi⟩ := ev_ix hb (Nat.le_refl _)
  have hAq : A (ad w.length) := hA _ (by rw [← hH.2.2.2]; exact hS.1)
  have hty : newarray.typeOf at' = ty := by rcases hcase with ⟨-, rfl, rfl⟩ | ⟨-, rfl, rfl⟩ <;> rfl
  have hdf : defaultValue ty = .int 0 := by rcases hcase with ⟨-, -, rfl⟩ | ⟨-, -, rfl⟩ <;> rfl
  have hcb : componentBytes ty ≤ 4 := by rcases hcase with ⟨-, -, rfl⟩ | ⟨-, -, rfl⟩ <;> decide
  refine va_newaK hx hbb (atype := at') (by rw [hty]; exact hts _ hw) rfl hd rfl h0 hi (by rw [hty]; have := Nat.mul_le_mul_left (ev_bits i) hcb; omega) hc1 hs1 hH.2.2.2 fun H1 cA e1 z1 o1 hAr hNm => ?_
  rw [hty, hdf] at e1
  have hcA : cA = G t := by
    rw [hty] at hNm
    rcases hcase with ⟨rfl, -, rfl⟩ | ⟨rfl, -, rfl⟩
    · have hI : s.vm.findClass ("[" ++ (FieldType.int).toString) = some (G 0) := (hK.2 0 _ rfl).2
      exact Option.some.inj (hNm.symm.trans hI)
    · have hI : s.vm.findClass ("[" ++ (FieldType.boolean).toString) = some (G 1) := (hK.2 1 _ rfl).2
      exact Option.some.inj (hNm.symm.trans hI)
  subst hcA
  refine kk H1 locs (ev_H_push hH ?_ (by rw [z1, hH.2.2.2]) (fun q hq => o1 q (by rw [← hH.2.2.2]; exact hq)) hAq (had _ hz) ⟨by simp, Nat.le_of_lt hb⟩) ⟨Nat.le_trans hS.1 (by rw [z1, hH.2.2.2]; omega), fun x h1 h2 => (o1 x (by rw [← hH.2.2.2]; exact Nat.lt_of_lt_of_le h1 hS.1)).trans (hS.2.1 x h1 h2), hS.2.2⟩
  have key : ∀ t', H1[ad w.length]? = some (arrV (G t') (ev_bits i) (fun _ => .int 0)) → H1[ad w.length]? = some (vp_cell (G t') (ev_bits i, .inl (fun j => ev_iv ((List.replicate (ev_bits i) (.int 0)).getD j .null)))) := by
    intro t' e2
    rw [e2, vp_cell_i]
    congr 2
    funext j
    rw [List.getD_eq_getElem?_getD, List.getElem?_replicate]
    split <;> rfl
  rcases hcase with ⟨rfl, -, -⟩ | ⟨rfl, -, -⟩
  · exact key 0 e1
  · exact key 1 e1
theorem ok_anewarray (X : ev_X cc nL own rt p s m args meth c D G ad A z) (hP : ev_PP p l e R s m args below meth c Q nL D G ad A z wE nE P) (hR : wE - z ≤ R.cells ∧ nE ≤ R.slots) (hd : decode cc pc = .ok (.anewarray idx, 3)) (hl : Cond.classLink own idx "java/lang/Object" ∈ ev_gd) (hq : pc + 3 = q) : ev_ok P r pc (ev_nwa q 2 .null) := by
  subst hq
  refine ok_push hP hR fun k L S w n h => ?_
  obtain ⟨i, S', rfl, hb, h3⟩ := ev_nwa_some h
  refine ⟨_, _, _, _, h3, fun H locs ls hz hc1 hs1 hH hl' hS kk => ?_⟩
  obtain ⟨hx, hbb, hml, hown, hts, hK, hAO, hNW, hZ, hA, -, -, had⟩ := X
  obtain ⟨h0, hi⟩ := ev_ix hb (Nat.le_refl _)
  have hAq : A (ad w.length) := hA _ (by rw [← hH.2.2.2]; exact hS.1)
  show W p l e R s m args below meth c H locs (w.length - z) n Q (F0 m pc ls (.int i :: S'.map (ev_v ad)))
  refine W.anew hx hbb hown (hts _ hl) (va_AO.use hAO) rfl hd rfl h0 (by rw [hi]; omega) hc1 (by rw [hi]; exact hs1) fun cA kA comp f1 f2 f3 f4 => ?_
  have hcA : cA = G 2 := by
    obtain ⟨kO, co, -, -, -, hO⟩ := (hK.2 2 _ rfl).2
    exact Option.some.inj (f1.symm.trans hO)
  subst hcA
  rw [hi, hH.2.2.2]
  generalize hH1 : H.push ({ cls := G 2, slots := Array.replicate (ev_bits i) .null, vm := .none } : Cell) = H1
  have z1 : H1.size = H.size + 1 := by rw [← hH1, Array.size_push]
  have e1 : H1[H.size]? = some (arrV (G 2) (ev_bits i) (fun _ => .null)) := by rw [← hH1, Array.getElem?_push_size, ← arrV_new]
  have o1 : ∀ q : Nat, q < H.size → H1[q]? = H[q]? := fun q hq => by rw [← hH1, Array.getElem?_push, if_neg (Nat.ne_of_lt hq)]
  refine kk H1 locs (ev_H_push hH ?_ z1 o1 hAq (had _ hz) ⟨by simp, Nat.le_of_lt hb⟩) ⟨Nat.le_trans hS.1 (by omega), fun x h1 h2 => (o1 x (Nat.lt_of_lt_of_le h1 hS.1)).trans (hS.2.1 x h1 h2), hS.2.2⟩
  show H1[ad w.length]? = some (vp_cell (G 2) (ev_bits i, .inr (.inr (.inr (.inr (fun j => ev_rv ad ((List.replicate (ev_bits i) .null).getD j .null)))))))
  rw [← hH.2.2.2, e1, vp_cell_q]
  congr 2
  funext j
  rw [List.getD_eq_getElem?_getD, List.getElem?_replicate]
  split <;> rfl
theorem ok_new (X : ev_X cc nL own rt p s m args meth c D G ad A z) (hP : ev_PP p l e R s m args below meth c Q nL D G ad A z wE nE P) (hR : wE - z ≤ R.cells ∧ nE ≤ R.slots) {ci N : Nat} {C : String} {T : u_T} {dv : List Value} (tyf : Nat → FieldType) (hd : decode cc pc = .ok (.new idx, 3)) (hc : vwCl[ci]? = some (C, T, N)) (hin : ∀ w ∈ u_ws C T N, w ∈ ev_gd) (hty : ∀ k, k < N → parseFieldDescriptor (T k).2.2.1 = some (tyf k)) (hcl : Cond.classLink own idx C ∈ ev_gd) (hinst : Cond.instantiable C N ∈ ev_gd) (hini : Cond.initialized C ∈ ev_gd) (hfs : ∀ j, j < N → defaultValue (tyf j) = vp_V dv j) (hnr : dv.map (ev_v ad) = dv) (hN : N = dv.length ∧ N ≤ 100000) (hq : pc + 3 = q) : ev_ok P r pc (ev_new q ci N dv) := by
  subst hq
  refine ok_push hP hR fun k L S w n h => ?_
  have h3 : k (pc + 3) L (.ref (ev_len w) :: S) (w ++ [(ci + 3, N, dv)]) (n + N) = some r := h
  rw [ev_len_eq] at h3
  refine ⟨_, _, _, _, h3, fun H locs ls hz hc1 hs1 hH hl' hS kk => ?_⟩
  obtain ⟨hx, hbb, hml, hown, hts, hK, hAO, hNW, hZ, hA, -, -, had⟩ := X
  have hAq : A (ad w.length) := hA _ (by rw [← hH.2.2.2]; exact hS.1)
  have hKn := hK.1 ci _ hc
  refine W.newcK hx hbb hown (hts _ hcl) (hts _ hinst) (hts _ hini) rfl hd hc1 hs1 hKn.2.1 rfl fun H1 kC hkC e1 z1 o1 => ?_
  rw [hH.2.2.2]
  refine kk H1 locs (ev_H_push hH ?_ z1 o1 hAq (had _ hz) hN) ⟨Nat.le_trans hS.1 (by omega), fun x h1 h2 => (o1 x (Nat.lt_of_lt_of_le h1 hS.1)).trans (hS.2.1 x h1 h2), hS.2.2⟩
  show va_at D vwCl (ad w.length, .inr (ci, dv.map (ev_v ad))) H1
  rw [hnr, ← hH.2.2.2]
  exact ⟨_, hc, (u_born tyf hts hin hKn hkC e1 hty).to hfs⟩
theorem ok_castA (X : ev_X cc nL own rt p s m args meth c D G ad A z) (hP : ev_PP p l e R s m args below meth c Q nL D G ad A z wE nE P) (hd : decode cc pc = .ok (.checkcast idx, 3)) (hl : Cond.classLink own idx "[I" ∈ ev_gd) (hq : pc + 3 = q) : ev_ok P r pc (ev_cst q 0) := by
  subst hq
  refine ok_of X hP fun k L S w n h => ?_
  obtain ⟨v, S', rfl, h1⟩ := ev_lc_some h
  obtain ⟨a, rfl, h2⟩ := ev_rc_some (v := v) h1
  obtain ⟨c0, hc0, h3⟩ := ev_oc_some h2
  obtain ⟨hb, h4⟩ := ev_bc_t h3
  rw [ev_at_eq] at hc0
  obtain ⟨hx, hbb, hml, hown, hts, hK, -⟩ := X
  exact ⟨_, _, _, h4, fun H locs ls hH hl' hS kk => va_castA hx hbb hown (hts _ hl) hH.1 a (ev_arr_at (G := G) (ad := ad) hc0 0 (Nat.eq_of_beq_eq_true hb)) (hK.2 0 _ rfl).2 hd (kk ls hl')⟩
theorem ok_castS (X : ev_X cc nL own rt p s m args meth c D G ad A z) (hP : ev_PP p l e R s m args below meth c Q nL D G ad A z wE nE P) {ci : Nat} {C : vw_C} (hd : decode cc pc = .ok (.checkcast idx, 3)) (hc : vwCl[ci]? = some C) (hl : Cond.classLink own idx C.1 ∈ ev_gd) (hq : pc + 3 = q) : ev_ok P r pc (ev_cst q (ci + 3)) := by
  subst hq
  refine ok_of X hP fun k L S w n h => ?_
  obtain ⟨v, S', rfl, h1⟩ := ev_lc_some h
  obtain ⟨a, rfl, h2⟩ := ev_rc_some (v := v) h1
  obtain ⟨c0, hc0, h3⟩ := ev_oc_some h2
  obtain ⟨hb, h4⟩ := ev_bc_t h3
  rw [ev_at_eq] at hc0
  obtain ⟨hx, hbb, hml, hown, hts, hK, -⟩ := X
  exact ⟨_, _, _, h4, fun H locs ls hH hl' hS kk => va_castS hx hbb hown (hts _ hl) (hK.1 ci _ hc).2 (va_recv hK hH.1 hc (ev_obj_at (G := G) (ad := ad) hc0 hb)) hd (kk ls hl')⟩
theorem ok_obj (X : ev_X cc nL own rt p s m args meth c D G ad A z) (hP : ev_PP p l e R s m args below meth c Q nL D G ad A z wE nE P) (hfr : 1 ≤ R.frames) (hlo : 21 ≤ R.locals) (hd : decode cc pc = .ok (.invokespecial idx, 3)) (h1 : Cond.methodLink own idx Lib.objectInit ∈ ev_gd) (h2 : Cond.instanceMethod Lib.objectInit ∈ ev_gd) (h3 : Cond.code Lib.objectInit ⟨#[0xb1]⟩ 1 none ∈ ev_gd) (hq : pc + 3 = q) : ev_ok P r pc (ev_obj q) := by
  subst hq
  refine ok_of X hP fun k L S w n h => ?_
  obtain ⟨v, S', rfl, g1⟩ := ev_lc_some h
  obtain ⟨a, rfl, g2⟩ := ev_rc_some (v := v) g1
  obtain ⟨hb, g3⟩ := ev_bc_t g2
  rw [Nat.ble_eq, ev_len_eq] at hb
  obtain ⟨hx, hbb, hml, hown, hts, hK, -⟩ := X
  refine ⟨_, _, _, g3, fun H locs ls hH hl' hS kk => W.objInit hx hbb hown (hts _ h1) (hts _ h2) (hts _ h3) rfl (hl'.1.trans hml.symm) rfl hd hfr ?_ (kk ls hl')⟩
  have := ev_sum (ad := ad) hb
  show 2 * 0 + _ + 12 ≤ _
  omega
/-! returns: what must be so where a call ends -/
theorem ok_ireturn (X : ev_X cc nL own rt p s m args meth c D G ad A z) (hP : ev_PP p l e R s m args below meth c Q nL D G ad A z wE nE P) {Qc : Array Value → State → Outcome → State → Prop} (hQ : Q = MQ below Qc args s (wE - z) nE A) {fin : Option Value → ev_W → Nat → Option α} (hfin : ∀ v w n, fin v w n = some r → w.length = wE ∧ n = nE ∧ ∀ H locs, ev_H D G ad A w H → va_S A s.heap H locs → ∀ t : State, t.heap = H → s.WarmedH t.vm → Qc args s (.returned (v.map (ev_v ad))) t) (hrt : rt = some .int) (hd : decode cc pc = .ok (.ireturn, 1)) : ev_ok P r pc (ev_rti fin) := by
  intro k L S w n hk h
  obtain ⟨v, S', rfl, h1⟩ := ev_lc_some h
  obtain ⟨x, rfl, h2⟩ := ev_ic_some (v := v) h1
  cases S' with
  | cons _ _ => cases h2
  | nil =>
    obtain ⟨e1, e2, h3⟩ := hfin _ _ _ h2
    rw [hP]
    intro hz
    refine ⟨⟨by omega, by omega⟩, fun H locs ls hH hl' hS => ?_⟩
    obtain ⟨hx, hbb, hml, hown, hts, hK, hAO, hNW, hZ, hA, hlk, hr, had⟩ := X
    subst hQ
    subst e1; subst e2
    exact W.iret hx hbb (hr.trans hrt) (h3 H locs hH hS) hS.2.2 hd hlk
theorem ok_zreturn (X : ev_X cc nL own rt p s m args meth c D G ad A z) (hP : ev_PP p l e R s m args below meth c Q nL D G ad A z wE nE P) {Qc : Array Value → State → Outcome → State → Prop} (hQ : Q = MQ below Qc args s (wE - z) nE A) {fin : Option Value → ev_W → Nat → Option α} (hfin : ∀ v w n, fin v w n = some r → w.length = wE ∧ n = nE ∧ ∀ H locs, ev_H D G ad A w H → va_S A s.heap H locs → ∀ t : State, t.heap = H → s.WarmedH t.vm → Qc args s (.returned (v.map (ev_v ad))) t) (hrt : rt = some .boolean) (hd : decode cc pc = .ok (.ireturn, 1)) : ev_ok P r pc (ev_rtz fin) := by
  intro k L S w n hk h
  obtain ⟨v, S', rfl, h1⟩ := ev_lc_some h
  obtain ⟨x, rfl, h2⟩ := ev_ic_some (v := v) h1
  obtain ⟨hb, h2⟩ := ev_bc_t h2
  cases S' with
  | cons _ _ => cases h2
  | nil =>
    obtain ⟨e1, e2, h3⟩ := hfin _ _ _ h2
    rw [hP]
    intro hz
    refine ⟨⟨by omega, by omega⟩, fun H locs ls hH hl' hS => ?_⟩
    obtain ⟨hx, hbb, hml, hown, hts, hK, hAO, hNW, hZ, hA, hlk, hr, had⟩ := X
    subst hQ
    subst e1; subst e2
    have hn : narrow .boolean (.int x) = .int x := by
      rcases ev_bool (by rw [← Nat.blt_eq]; exact hb) with rfl | rfl <;> rfl
    exact W.zret hx hbb (hr.trans hrt) hn (h3 H locs hH hS) hS.2.2 hd hlk
theorem ok_areturn (X : ev_X cc nL own rt p s m args meth c D G ad A z) (hP : ev_PP p l e R s m args below meth c Q nL D G ad A z wE nE P) {Qc : Array Value → State → Outcome → State → Prop} (hQ : Q = MQ below Qc args s (wE - z) nE A) {fin : Option Value → ev_W → Nat → Option α} (hfin : ∀ v w n, fin v w n = some r → w.length = wE ∧ n = nE ∧ ∀ H locs, ev_H D G ad A w H → va_S A s.heap H locs → ∀ t : State, t.heap = H → s.WarmedH t.vm → Qc args s (.returned (v.map (ev_v ad))) t) {ty : FieldType} (hrt : rt = some ty) (hty : (∃ n, ty = .object n) ∨ ∃ t, ty = .array t) (hd : decode cc pc = .ok (.areturn, 1)) : ev_ok P r pc (ev_rta fin) := by
  intro k L S w n hk h
  obtain ⟨v, S', rfl, h1⟩ := ev_lc_some h
  obtain ⟨hv, h2⟩ := ev_pc_some h1
  cases S' with
  | cons _ _ => cases h2
  | nil =>
    obtain ⟨e1, e2, h3⟩ := hfin _ _ _ h2
    rw [hP]
    intro hz
    refine ⟨⟨by omega, by omega⟩, fun H locs ls hH hl' hS => ?_⟩
    obtain ⟨hx, hbb, hml, hown, hts, hK, hAO, hNW, hZ, hA, hlk, hr, had⟩ := X
    subst hQ
    subst e1; subst e2
    exact W.aret hx hbb (hr.trans hrt) hty (v := ev_v ad v) (by rcases hv with rfl | ⟨x, rfl⟩; exact Or.inl rfl; exact Or.inr ⟨_, rfl⟩) (h3 H locs hH hS) hS.2.2 hd hlk
theorem ok_return (X : ev_X cc nL own rt p s m args meth c D G ad A z) (hP : ev_PP p l e R s m args below meth c Q nL D G ad A z wE nE P) {Qc : Array Value → State → Outcome → State → Prop} (hQ : Q = MQ below Qc args s (wE - z) nE A) {fin : Option Value → ev_W → Nat → Option α} (hfin : ∀ v w n, fin v w n = some r → w.length = wE ∧ n = nE ∧ ∀ H locs, ev_H D G ad A w H → va_S A s.heap H locs → ∀ t : State, t.heap = H → s.WarmedH t.vm → Qc args s (.returned (v.map (ev_v ad))) t) (hrt : rt = none) (hd : decode cc pc = .ok (.return_, 1)) : ev_ok P r pc (ev_rtv fin) := by
  intro k L S w n hk h
  cases S with
  | cons _ _ => cases h
  | nil =>
    obtain ⟨e1, e2, h3⟩ := hfin _ _ _ h
    rw [hP]
    intro hz
    refine ⟨⟨by omega, by omega⟩, fun H locs ls hH hl' hS => ?_⟩
    obtain ⟨hx, hbb, hml, hown, hts, hK, hAO, hNW, hZ, hA, hlk, hr, had⟩ := X
    subst hQ
    subst e1; subst e2
    exact W.vret hx hbb (hr.trans hrt) (h3 H locs hH hS) hS.2.2 hd hlk
end AOPS
end
section
/-! calls -/
def ev_Qc (D : va_G) (G : Nat → ClassId) (ad : Nat → Nat) (A : Nat → Prop) (rv : Option Value) (w' : ev_W) : Array Value → State → Outcome → State → Prop := fun _ st o t => o = .returned (rv.map (ev_v ad)) ∧ ev_H D G ad A w' t.heap ∧ va_F A st t
def ev_Pc (D : va_G) (G : Nat → ClassId) (ad : Nat → Nat) (A : Nat → Prop) (vs : List Value) (w : ev_W) : Array Value → State → Prop := fun a U => a = (vs.map (ev_v ad)).toArray ∧ ev_B D G ad A w U
def ev_rm (d mc ms : Nat) : Room := { frames := d, cells := mc, slots := ms, locals := 64 * d }
/-- what the calls that the evaluator makes are over the machine: d deep at most; ys: each method's name and words -/
def ev_cf (l : Launch) (ys : List (MethodName × List Cond)) (d : Nat) (cf : Nat → List Value → ev_W → Option ev_R) : Prop :=
  ∀ (y : Nat) (vs : List Value) (w w1 : ev_W) (rv : Option Value) (k1 : Nat), cf y vs w = some (rv, w1, k1) → w.length ≤ w1.length ∧ ∀ (nm : MethodName) (ws : List Cond), ys[y]? = some (nm, ws) → ∀ (D : va_G) (G : Nat → ClassId) (ad : Nat → Nat) (A : Nat → Prop) (z : Nat), (∀ k, z ≤ k → ad (k + 1) = ad k + 1) → z ≤ w.length →
    Met l nm ws (ev_rm d (w1.length - w.length) k1) (ev_Pc D G ad A vs w) (ev_Qc D G ad A rv w1) (w1.length - w.length) k1 A
theorem ev_blind {D : va_G} {G : Nat → ClassId} {ad : Nat → Nat} {A : Nat → Prop} {vs : List Value} {w : ev_W} : FrameBlind (ev_Pc D G ad A vs w) := by
  intro a U g mk h
  obtain ⟨ha, hH, hK, hAO, hNW, hZ, hA⟩ := h
  exact ⟨ha, hH, va_K.moved (u := U) (U := U.calling g mk a) (Vm.Alike.refl U.vm) hK, va_AO.moved (u := U) (U := U.calling g mk a) (Vm.Alike.refl U.vm) hAO, ev_NW.warm (s := U) (U := U.calling g mk a) (State.WarmedH.refl U) hNW, va_Z.moved (u := U) (U := U.calling g mk a) (Vm.Alike.refl U.vm) hZ, hA⟩
theorem ev_good {ws : List Cond} (h : ∀ w ∈ ws, w ∈ ev_gd) : GoodIn ev_gd ws := fun w hw => ⟨h w hw, good_of_word (List.mem_filter.mp (h w hw)).2⟩
theorem ev_push_eq {ad : Nat → Nat} {rv : Option Value} {S : List Value} : (ev_push rv S).map (ev_v ad) = (rv.map (ev_v ad)).toList ++ S.map (ev_v ad) := by cases rv <;> rfl
section CALLS
variable {p : Program} {l : Launch} {e : Env} {R : Room} {s : State} {m : MethodId} {args : Array Value} {below : List Frame} {meth : Method} {c : Code} {Q : State → Prop}
variable {cc : ByteArray} {nL : Nat} {own : String} {rt : Option FieldType} {D : va_G} {G : Nat → ClassId} {ad : Nat → Nat} {A : Nat → Prop} {z wE nE : Nat} {α : Type} {r : α} {P : Nat → List Value → List Value → ev_W → Nat → Prop} {pc q i idx : Nat}
theorem ev_callW {H : Heap} {locs : List Loc} {cells slots mc ms : Nat} {ls : Array Slot} {st0 rest : List Value} {rv : Option Value} {w1 : ev_W} {a0 : Array Value} (hr : va_Run p l e R s m args below meth c H locs cells slots mc ms (F0 m pc ls st0) rest (ev_Qc D G ad A rv w1 a0) A) (hS : va_S A s.heap H locs)
    (kk : ∀ H1 locs1, ev_H D G ad A w1 H1 → va_S A s.heap H1 locs1 → W p l e R s m args below meth c H1 locs1 (cells + mc) (slots + ms) Q (F0 m (pc + 3) ls ((rv.map (ev_v ad)).toList ++ rest))) : W p l e R s m args below meth c H locs cells slots Q (F0 m pc ls st0) := by
  intro T hT X
  obtain ⟨v, st₀, t, T', L, h0, X', hL, e1, e2, ⟨hv, hH, hz, hk⟩, st⟩ := hr T hT X
  cases hv
  rw [h0] at hz hk
  obtain ⟨t2, a1, b1⟩ := kk T'.heap (locs ++ L) (by rw [e1]; exact hH)
    ⟨Nat.le_trans hS.1 (by rw [e1]; exact hz), fun q h1 h2 => by rw [e1, hk q (Nat.lt_of_lt_of_le h1 hS.1) h2]; exact hS.2.1 q h1 h2, fun q hq => by
      rcases List.mem_append.mp hq with h | h
      · exact hS.2.2 q h
      · exact hL q h⟩ T' rfl X'
  exact ⟨t2, st t2 a1, b1⟩
theorem ev_callW5 {H : Heap} {locs : List Loc} {cells slots mc ms : Nat} {ls : Array Slot} {st0 rest : List Value} {rv : Option Value} {w1 : ev_W} {a0 : Array Value} (hr : va_Run5 p l e R s m args below meth c H locs cells slots mc ms (F0 m pc ls st0) rest (ev_Qc D G ad A rv w1 a0) A) (hS : va_S A s.heap H locs)
    (kk : ∀ H1 locs1, ev_H D G ad A w1 H1 → va_S A s.heap H1 locs1 → W p l e R s m args below meth c H1 locs1 (cells + mc) (slots + ms) Q (F0 m (pc + 5) ls ((rv.map (ev_v ad)).toList ++ rest))) : W p l e R s m args below meth c H locs cells slots Q (F0 m pc ls st0) := by
  intro T hT X
  obtain ⟨v, st₀, t, T', L, h0, X', hL, e1, e2, ⟨hv, hH, hz, hk⟩, st⟩ := hr T hT X
  cases hv
  rw [h0] at hz hk
  obtain ⟨t2, a1, b1⟩ := kk T'.heap (locs ++ L) (by rw [e1]; exact hH)
    ⟨Nat.le_trans hS.1 (by rw [e1]; exact hz), fun q h1 h2 => by rw [e1, hk q (Nat.lt_of_lt_of_le h1 hS.1) h2]; exact hS.2.1 q h1 h2, fun q hq => by
      rcases List.mem_append.mp hq with h | h
      · exact hS.2.2 q h
      · exact hL q h⟩ T' rfl X'
  exact ⟨t2, st t2 a1, b1⟩
/-- what a callee asks, where a caller stands -/
theorem ev_Bof (X : ev_X cc nL own rt p s m args meth c D G ad A z) {w : ev_W} {H : Heap} {locs : List Loc} (hH : ev_H D G ad A w H) (hS : va_S A s.heap H locs) {U : State} (hU : U.heap = H) (hW : s.WarmedH U.vm) : ev_B D G ad A w U := by
  obtain ⟨hx, hbb, hml, hown, hts, hK, hAO, hNW, hZ, hA, -⟩ := X
  refine ⟨by rw [hU]; exact hH, va_K.moved hW.alike hK, va_AO.moved hW.alike hAO, ev_NW.warm hW hNW, ?_, fun q hq => hA q (Nat.le_trans hS.1 (by rw [← hU]; exact hq))⟩
  rw [hU]
  exact (va_Z.moved hW.alike hZ).kept (fun a h1 h2 => hS.2.1 a h1 h2)
/-- a call by its run over the machine, whatever its kind -/
abbrev ev_Ru (p : Program) (l : Launch) (e : Env) (R : Room) (s : State) (m : MethodId) (args : Array Value) (below : List Frame) (meth : Method) (c : Code) (nL : Nat) (D : va_G) (G : Nat → ClassId) (ad : Nat → Nat) (A : Nat → Prop) (z : Nat) (pc : Nat) (d : Nat) (y : MethodName) (ws : List Cond) (as S' : List Value) (w : ev_W) (n : Nat) (H : Heap) (locs : List Loc) (ls : Array Slot) : Prop :=
  ∀ (w1 : ev_W) (rv : Option Value) (k1 : Nat), Met l y ws (ev_rm d (w1.length - w.length) k1) (ev_Pc D G ad A as w) (ev_Qc D G ad A rv w1) (w1.length - w.length) k1 A → w.length - z + (w1.length - w.length) ≤ R.cells ∧ n + k1 ≤ R.slots →
      va_Run p l e R s m args below meth c H locs (w.length - z) n (w1.length - w.length) k1 (F0 m pc ls ((as.reverse ++ S').map (ev_v ad))) (S'.map (ev_v ad)) (ev_Qc D G ad A rv w1 (as.map (ev_v ad)).toArray) A
theorem ok_inv {ys : List (MethodName × List Cond)} {d : Nat} {cf : Nat → List Value → ev_W → Option ev_R} (X : ev_X cc nL own rt p s m args meth c D G ad A z) (hP : ev_PP p l e R s m args below meth c Q nL D G ad A z wE nE P) (hR : wE - z ≤ R.cells ∧ nE ≤ R.slots) (hcf : ev_cf l ys d cf) {cal na : Nat} {y : MethodName} {ws : List Cond} (hy : ys[cal]? = some (y, ws))
    (run : ∀ (as S' : List Value) (w : ev_W) (n : Nat) (H : Heap) (locs : List Loc) (ls : Array Slot), as.length = na → S'.length ≤ 4 → ev_H D G ad A w H → ls.size = nL → va_S A s.heap H locs → ev_Ru p l e R s m args below meth c nL D G ad A z pc d y ws as S' w n H locs ls) (hq : pc + 3 = q) : ev_ok P r pc (ev_inv cf q cal na : ev_O α) := by
  subst hq
  intro k L S w n hk h
  obtain ⟨as, S', rfl, hna, h1⟩ := ev_pop_some _ _ _ _ h
  rw [List.append_nil] at h1
  obtain ⟨hb, h2⟩ := ev_bc_t h1
  obtain ⟨⟨rv, w1, k1⟩, hcall, h3⟩ := ev_oc_some h2
  rw [Nat.ble_eq, ev_len_eq] at hb
  obtain ⟨hlen, hMet⟩ := hcf _ _ _ _ _ _ hcall
  rw [hP]
  intro hz
  have hM := hMet y ws hy D G ad A z X.2.2.2.2.2.2.2.2.2.2.2.2 hz
  obtain ⟨hm, h4⟩ := (hP _ _ _ _ _).mp (hk _ _ _ _ _ h3) (Nat.le_trans hz hlen)
  have hm1 : w1.length ≤ wE := hm.1
  have hm2 : n + k1 ≤ nE := hm.2
  refine ⟨⟨Nat.le_trans hlen hm1, by omega⟩, fun H locs ls hH hl' hS => ?_⟩
  refine ev_callW (run as S' w n H locs ls hna hb hH hl'.1 hS w1 rv k1 hM ⟨by omega, by omega⟩) hS fun H1 locs1 hH1 hS1 => ?_
  have h5 := h4 H1 locs1 ls hH1 hl' hS1
  rw [ev_push_eq] at h5
  have e : w.length - z + (w1.length - w.length) = w1.length - z := by omega
  rw [e]
  exact h5
theorem ok_invS {ys : List (MethodName × List Cond)} {d : Nat} {cf : Nat → List Value → ev_W → Option ev_R} (X : ev_X cc nL own rt p s m args meth c D G ad A z) (hP : ev_PP p l e R s m args below meth c Q nL D G ad A z wE nE P) (hR : wE - z ≤ R.cells ∧ nE ≤ R.slots) (hd2 : d + 1 ≤ R.frames ∧ 64 * (d + 1) ≤ R.locals) (hcf : ev_cf l ys d cf) {cal na : Nat} {y : MethodName} {bytes : ByteArray} {maxL : Nat} {ret : Option FieldType} (hy : ys[cal]? = some (y, Cond.code y bytes maxL ret :: ev_gd)) (hd : decode cc pc = .ok (.invokestatic idx, 3)) (h1 : Cond.code y bytes maxL ret ∈ ev_gd) (h2 : Cond.methodLink own idx y ∈ ev_gd) (h3 : Cond.static y ∈ ev_gd) (h4 : Cond.initialized y.cls ∈ ev_gd)
    (hdn : y.cls ≠ "java/lang/invoke/MethodHandle" ∧ y.cls ≠ "java/lang/invoke/VarHandle" ∧ (parseMethodDescriptor y.desc).map (fun d => d.parameters.length) = some na) (hm : maxL ≤ 45) (hq : pc + 3 = q) : ev_ok P r pc (ev_inv cf q cal na : ev_O α) := by
  refine ok_inv X hP hR hcf hy (fun as S' w n H locs ls hna hS' hH hls hS w1 rv k1 hM hbud => ?_) hq
  obtain ⟨hx, hbb, hml, hown, hts, -⟩ := id X
  refine va_runS ⟨hx, hbb, hml, hown, hts⟩ hM (va_cwS na hts (ev_good fun w hw => ?_) rfl rfl rfl hdn ⟨hd2.1, ?_⟩) ⟨ev_blind, fun U hU hW => ⟨rfl, ev_Bof X hH hS hU hW⟩⟩ rfl (by rw [List.length_map]; exact hna) hls (by rw [List.map_append, List.map_reverse]) (lv_room (ev_sum hS')) hd hbud
  · unfold va_wsS at hw
    rcases List.mem_append.mp hw with hw | hw
    · simp at hw
      rcases hw with rfl | rfl | rfl
      · exact h2
      · exact h3
      · exact h4
    · rcases List.mem_cons.mp hw with rfl | hw
      · exact h1
      · exact hw
  · show 8 + (maxL + 11) + 64 * d ≤ R.locals
    omega
theorem ok_invSW {ys : List (MethodName × List Cond)} {d : Nat} {cf : Nat → List Value → ev_W → Option ev_R} (X : ev_X cc nL own rt p s m args meth c D G ad A z) (hP : ev_PP p l e R s m args below meth c Q nL D G ad A z wE nE P) (hR : wE - z ≤ R.cells ∧ nE ≤ R.slots) (hd2 : d + 1 ≤ R.frames ∧ 64 * (d + 1) ≤ R.locals) (hcf : ev_cf l ys d cf) {cal na : Nat} {y : MethodName} {bytes : ByteArray} {maxL : Nat} {ret : Option FieldType} {hh : List (Nat × Nat × Nat × Nat)} (hy : ys[cal]? = some (y, Cond.codeWith y bytes maxL ret hh :: ev_gd)) (hd : decode cc pc = .ok (.invokestatic idx, 3)) (h1 : Cond.codeWith y bytes maxL ret hh ∈ ev_gd) (h2 : Cond.methodLink own idx y ∈ ev_gd) (h3 : Cond.static y ∈ ev_gd) (h4 : Cond.initialized y.cls ∈ ev_gd)
    (hdn : y.cls ≠ "java/lang/invoke/MethodHandle" ∧ y.cls ≠ "java/lang/invoke/VarHandle" ∧ (parseMethodDescriptor y.desc).map (fun d => d.parameters.length) = some na) (hm : maxL ≤ 45) (hq : pc + 3 = q) : ev_ok P r pc (ev_inv cf q cal na : ev_O α) := by
  refine ok_inv X hP hR hcf hy (fun as S' w n H locs ls hna hS' hH hls hS w1 rv k1 hM hbud => ?_) hq
  obtain ⟨hx, hbb, hml, hown, hts, -⟩ := id X
  refine vx_runSW ⟨hx, hbb, hml, hown, hts⟩ hM (vx_cwSW na hts (ev_good fun w hw => ?_) rfl rfl rfl hdn ⟨hd2.1, ?_⟩) ⟨ev_blind, fun U hU hW => ⟨rfl, ev_Bof X hH hS hU hW⟩⟩ rfl (by rw [List.length_map]; exact hna) hls (by rw [List.map_append, List.map_reverse]) (lv_room (ev_sum hS')) hd hbud
  · unfold va_wsS at hw
    rcases List.mem_append.mp hw with hw | hw
    · simp at hw
      rcases hw with rfl | rfl | rfl
      · exact h2
      · exact h3
      · exact h4
    · rcases List.mem_cons.mp hw with rfl | hw
      · exact h1
      · exact hw
  · show 8 + (maxL + 11) + 64 * d ≤ R.locals
    omega
theorem ok_invSN {ys : List (MethodName × List Cond)} {d : Nat} {cf : Nat → List Value → ev_W → Option ev_R} (X : ev_X cc nL own rt p s m args meth c D G ad A z) (hP : ev_PP p l e R s m args below meth c Q nL D G ad A z wE nE P) (hR : wE - z ≤ R.cells ∧ nE ≤ R.slots) (hd2 : d + 1 ≤ R.frames ∧ 64 * (d + 1) ≤ R.locals) (hcf : ev_cf l ys d cf) {cal na : Nat} {y : MethodName} {host : String} {bytes : ByteArray} {maxL : Nat} {ret : Option FieldType} (hy : ys[cal]? = some (y, Cond.code y bytes maxL ret :: ev_gd)) (hd : decode cc pc = .ok (.invokestatic idx, 3)) (h1 : Cond.code y bytes maxL ret ∈ ev_gd) (h2 : Cond.methodLinkNest own idx y host ∈ ev_nw) (h3 : Cond.static y ∈ ev_gd) (h4 : Cond.initialized y.cls ∈ ev_gd)
    (hdn : y.cls ≠ "java/lang/invoke/MethodHandle" ∧ y.cls ≠ "java/lang/invoke/VarHandle" ∧ (parseMethodDescriptor y.desc).map (fun d => d.parameters.length) = some na) (hm : maxL ≤ 45) (hq : pc + 3 = q) : ev_ok P r pc (ev_inv cf q cal na : ev_O α) := by
  refine ok_inv X hP hR hcf hy (fun as S' w n H locs ls hna hS' hH hls hS w1 rv k1 hM hbud => ?_) hq
  obtain ⟨hx, hbb, hml, hown, hts, hK, hAO, hNW, -⟩ := id X
  refine va_runSN ⟨hx, hbb, hml, hown, hts⟩ hM ⟨va_cnB na hts (ev_good fun w hw => ?_) rfl rfl rfl (hNW.1 _ h2) (hts _ h4) hdn ⟨hd2.1, ?_⟩, hts _ h3, trivial⟩ ⟨ev_blind, fun U hU hW => ⟨rfl, ev_Bof X hH hS hU hW⟩⟩ rfl (by rw [List.length_map]; exact hna) hls (by rw [List.map_append, List.map_reverse]) (lv_room (ev_sum hS')) hd hbud
  · rcases List.mem_cons.mp hw with rfl | hw
    · exact h1
    · exact hw
  · show 8 + (maxL + 11) + 64 * d ≤ R.locals
    omega
/-- the receiver is the deepest of the arguments -/
theorem ev_recv_split {as : List Value} {na : Nat} (h : as.length = na + 1) : ∃ v as', as = v :: as' ∧ as'.length = na := by
  cases as with
  | nil => simp at h
  | cons v as' => exact ⟨v, as', rfl, by simpa using h⟩
theorem ok_inr0 {ys : List (MethodName × List Cond)} {d : Nat} {cf : Nat → List Value → ev_W → Option ev_R} (X : ev_X cc nL own rt p s m args meth c D G ad A z) (hP : ev_PP p l e R s m args below meth c Q nL D G ad A z wE nE P) (hR : wE - z ≤ R.cells ∧ nE ≤ R.slots) (hcf : ev_cf l ys d cf) {cal na ci : Nat} {y : MethodName} {ws : List Cond} (hy : ys[cal]? = some (y, ws)) (len : Nat)
    (go : ∀ (a : Nat) (as' S' : List Value) (w : ev_W) (n : Nat) (H : Heap) (locs : List Loc) (ls : Array Slot) (c0 : ev_Q) (w1 : ev_W) (rv : Option Value) (k1 : Nat), as'.length + 1 = na → S'.length ≤ 4 → w[a]? = some c0 → Nat.beq c0.1 (ci + 3) = true → ev_H D G ad A w H → ls.size = nL → va_S A s.heap H locs → Met l y ws (ev_rm d (w1.length - w.length) k1) (ev_Pc D G ad A (.ref a :: as') w) (ev_Qc D G ad A rv w1) (w1.length - w.length) k1 A → w.length - z + (w1.length - w.length) ≤ R.cells ∧ n + k1 ≤ R.slots →
      (∀ H1 locs1, ev_H D G ad A w1 H1 → va_S A s.heap H1 locs1 → W p l e R s m args below meth c H1 locs1 (w.length - z + (w1.length - w.length)) (n + k1) Q (F0 m (pc + len) ls ((rv.map (ev_v ad)).toList ++ S'.map (ev_v ad)))) → W p l e R s m args below meth c H locs (w.length - z) n Q (F0 m pc ls (((.ref a :: as').reverse ++ S').map (ev_v ad)))) : ev_ok P r pc (ev_inr cf (pc + len) cal na ci : ev_O α) := by
  intro k L S w n hk h
  obtain ⟨as, S', rfl, hna, h1⟩ := ev_pop_some _ _ _ _ h
  rw [List.append_nil] at h1
  obtain ⟨v, as', rfl, h2⟩ := ev_lc_some h1
  obtain ⟨a, rfl, h3⟩ := ev_rc_some (v := v) h2
  obtain ⟨c0, hc0, h4⟩ := ev_oc_some h3
  obtain ⟨hb, h5⟩ := ev_bc_t h4
  obtain ⟨⟨rv, w1, k1⟩, hcall, h6⟩ := ev_oc_some h5
  rw [ev_at_eq] at hc0
  rw [Bool.and_eq_true, Nat.ble_eq, ev_len_eq] at hb
  obtain ⟨hlen, hMet⟩ := hcf _ _ _ _ _ _ hcall
  rw [hP]
  intro hz
  have hM := hMet y ws hy D G ad A z X.2.2.2.2.2.2.2.2.2.2.2.2 hz
  obtain ⟨hm, h7⟩ := (hP _ _ _ _ _).mp (hk _ _ _ _ _ h6) (Nat.le_trans hz hlen)
  have hm1 : w1.length ≤ wE := hm.1
  have hm2 : n + k1 ≤ nE := hm.2
  refine ⟨⟨Nat.le_trans hlen hm1, by omega⟩, fun H locs ls hH hl' hS => ?_⟩
  refine go a as' S' w n H locs ls c0 w1 rv k1 (by simpa using hna) hb.2 hc0 hb.1 hH hl'.1 hS hM ⟨by omega, by omega⟩ fun H1 locs1 hH1 hS1 => ?_
  have h8 := h7 H1 locs1 ls hH1 hl' hS1
  rw [ev_push_eq] at h8
  have e : w.length - z + (w1.length - w.length) = w1.length - z := by omega
  rw [e]
  exact h8
theorem ok_invV {ys : List (MethodName × List Cond)} {d : Nat} {cf : Nat → List Value → ev_W → Option ev_R} (X : ev_X cc nL own rt p s m args meth c D G ad A z) (hP : ev_PP p l e R s m args below meth c Q nL D G ad A z wE nE P) (hR : wE - z ≤ R.cells ∧ nE ≤ R.slots) (hd2 : d + 1 ≤ R.frames ∧ 64 * (d + 1) ≤ R.locals) (hcf : ev_cf l ys d cf) {cal na ci : Nat} {y : MethodName} {bytes : ByteArray} {maxL : Nat} {ret : Option FieldType} {C : vw_C} (hy : ys[cal]? = some (y, Cond.code y bytes maxL ret :: ev_gd)) (hc : vwCl[ci]? = some C) (hd : decode cc pc = .ok (.invokevirtual idx, 3)) (h1 : Cond.code y bytes maxL ret ∈ ev_gd) (h2 : Cond.methodLink own idx y ∈ ev_gd) (h3 : Cond.instanceMethod y ∈ ev_gd) (h4 : Cond.selects C.1 y y ∈ ev_gd) (h5 : Cond.initialized C.1 ∈ ev_gd)
    (hdn : y.cls = C.1 ∧ y.cls ≠ "java/lang/invoke/MethodHandle" ∧ y.cls ≠ "java/lang/invoke/VarHandle" ∧ (parseMethodDescriptor y.desc).map (fun d => d.parameters.length) = some na) (hm : maxL ≤ 45) (hq : pc + 3 = q) : ev_ok P r pc (ev_inr cf q cal (na + 1) ci : ev_O α) := by
  subst hq
  refine ok_inr0 X hP hR hcf hy 3 fun a as' S' w n H locs ls c0 w1 rv k1 hna hS' hc0 hb hH hls hS hM hbud kk => ?_
  obtain ⟨hx, hbb, hml, hown, hts, hK, -⟩ := id X
  refine ev_callW (va_runV (As := as'.map (ev_v ad)) (rest := S'.map (ev_v ad)) (b := ad a) ⟨hx, hbb, hml, hown, hts⟩ hM (cwV na hts (ev_good fun w hw => ?_) rfl rfl rfl hdn ⟨hd2.1, ?_⟩) ⟨ev_blind, va_recv hK hH.1 hc (ev_obj_at (G := G) (ad := ad) hc0 hb), fun U hU hW => ⟨rfl, ev_Bof X hH hS hU hW⟩⟩ rfl (by rw [List.length_map]; omega) hls (by simp [ev_v]) (lv_room (ev_sum hS')) hd hbud) hS kk
  · unfold wsV at hw
    rcases List.mem_append.mp hw with hw | hw
    · simp at hw
      rcases hw with rfl | rfl | rfl | rfl
      · exact h2
      · exact h3
      · exact h4
      · exact h5
    · rcases List.mem_cons.mp hw with rfl | hw
      · exact h1
      · exact hw
  · show 8 + (maxL + 11) + 64 * d ≤ R.locals
    omega
theorem ok_invF {ys : List (MethodName × List Cond)} {d cnt : Nat} {cf : Nat → List Value → ev_W → Option ev_R} (X : ev_X cc nL own rt p s m args meth c D G ad A z) (hP : ev_PP p l e R s m args below meth c Q nL D G ad A z wE nE P) (hR : wE - z ≤ R.cells ∧ nE ≤ R.slots) (hd2 : d + 1 ≤ R.frames ∧ 64 * (d + 1) ≤ R.locals) (hcf : ev_cf l ys d cf) {cal na ci : Nat} {x y : MethodName} {bytes : ByteArray} {maxL : Nat} {ret : Option FieldType} {C : vw_C} (hy : ys[cal]? = some (y, Cond.code y bytes maxL ret :: ev_gd)) (hc : vwCl[ci]? = some C) (hd : decode cc pc = .ok (.invokeinterface idx cnt, 5)) (h1 : Cond.code y bytes maxL ret ∈ ev_gd) (h2 : Cond.methodLink own idx x ∈ ev_gd) (h3 : Cond.selects C.1 x y ∈ ev_gd) (h4 : Cond.instanceMethod y ∈ ev_gd) (h5 : Cond.initialized y.cls ∈ ev_gd) (h6 : (C.1, x, y) ∈ ev_fw)
    (hdn : x.cls ≠ "java/lang/invoke/MethodHandle" ∧ x.cls ≠ "java/lang/invoke/VarHandle" ∧ (parseMethodDescriptor x.desc).map (fun d => d.parameters.length) = some na) (hm : maxL ≤ 45) (hq : pc + 5 = q) : ev_ok P r pc (ev_inr cf q cal (na + 1) ci : ev_O α) := by
  subst hq
  refine ok_inr0 X hP hR hcf hy 5 fun a as' S' w n H locs ls c0 w1 rv k1 hna hS' hc0 hb hH hls hS hM hbud kk => ?_
  obtain ⟨hx, hbb, hml, hown, hts, hK, hAO, hNW, -⟩ := id X
  refine ev_callW5 (va_runF (As := as'.map (ev_v ad)) (rest := S'.map (ev_v ad)) (b := ad a) (hK.1 ci _ hc).2 ⟨hx, hbb, hml, hown, hts⟩ hM (va_cwF na hts (ev_good fun w hw => ?_) rfl rfl rfl (hNW.2 _ h6) hdn ⟨hd2.1, ?_⟩) ⟨ev_blind, va_recv hK hH.1 hc (ev_obj_at (G := G) (ad := ad) hc0 hb), fun U hU hW => ⟨rfl, ev_Bof X hH hS hU hW⟩⟩ rfl (by rw [List.length_map]; omega) hls (by simp [ev_v]) (lv_room (ev_sum hS')) hd hbud) hS kk
  · unfold va_wsF at hw
    rcases List.mem_append.mp hw with hw | hw
    · simp at hw
      rcases hw with rfl | rfl | rfl | rfl
      · exact h2
      · exact h3
      · exact h4
      · exact h5
    · rcases List.mem_cons.mp hw with rfl | hw
      · exact h1
      · exact hw
  · show 8 + (maxL + 11) + 64 * d ≤ R.locals
    omega
/-- constructors: the receiver lies deepest, and is a cell's place -/
theorem ok_inv1 {ys : List (MethodName × List Cond)} {d : Nat} {cf : Nat → List Value → ev_W → Option ev_R} (X : ev_X cc nL own rt p s m args meth c D G ad A z) (hP : ev_PP p l e R s m args below meth c Q nL D G ad A z wE nE P) (hR : wE - z ≤ R.cells ∧ nE ≤ R.slots) (hcf : ev_cf l ys d cf) {cal na : Nat} {y : MethodName} {ws : List Cond} (hy : ys[cal]? = some (y, ws))
    (run : ∀ (a : Nat) (as' S' : List Value) (w : ev_W) (n : Nat) (H : Heap) (locs : List Loc) (ls : Array Slot), as'.length = na → S'.length ≤ 4 → ev_H D G ad A w H → ls.size = nL → va_S A s.heap H locs → ev_Ru p l e R s m args below meth c nL D G ad A z pc d y ws (.ref a :: as') S' w n H locs ls) (hq : pc + 3 = q) : ev_ok P r pc (ev_ini cf q cal (na + 1) : ev_O α) := by
  subst hq
  intro k L S w n hk h
  obtain ⟨as, S', rfl, hna, h1⟩ := ev_pop_some _ _ _ _ h
  rw [List.append_nil] at h1
  obtain ⟨v, as', rfl, h2⟩ := ev_lc_some h1
  obtain ⟨a, rfl, h3⟩ := ev_rc_some (v := v) h2
  obtain ⟨hb, h5⟩ := ev_bc_t h3
  obtain ⟨⟨rv, w1, k1⟩, hcall, h6⟩ := ev_oc_some h5
  rw [Nat.ble_eq, ev_len_eq] at hb
  obtain ⟨hlen, hMet⟩ := hcf _ _ _ _ _ _ hcall
  rw [hP]
  intro hz
  have hM := hMet y ws hy D G ad A z X.2.2.2.2.2.2.2.2.2.2.2.2 hz
  obtain ⟨hm, h7⟩ := (hP _ _ _ _ _).mp (hk _ _ _ _ _ h6) (Nat.le_trans hz hlen)
  have hm1 : w1.length ≤ wE := hm.1
  have hm2 : n + k1 ≤ nE := hm.2
  refine ⟨⟨Nat.le_trans hlen hm1, by omega⟩, fun H locs ls hH hl' hS => ?_⟩
  refine ev_callW (run a as' S' w n H locs ls (by simpa using hna) hb hH hl'.1 hS w1 rv k1 hM ⟨by omega, by omega⟩) hS fun H1 locs1 hH1 hS1 => ?_
  have h8 := h7 H1 locs1 ls hH1 hl' hS1
  rw [ev_push_eq] at h8
  have e : w.length - z + (w1.length - w.length) = w1.length - z := by omega
  rw [e]
  exact h8
theorem ok_invI {ys : List (MethodName × List Cond)} {d : Nat} {cf : Nat → List Value → ev_W → Option ev_R} (X : ev_X cc nL own rt p s m args meth c D G ad A z) (hP : ev_PP p l e R s m args below meth c Q nL D G ad A z wE nE P) (hR : wE - z ≤ R.cells ∧ nE ≤ R.slots) (hd2 : d + 1 ≤ R.frames ∧ 64 * (d + 1) ≤ R.locals) (hcf : ev_cf l ys d cf) {cal na : Nat} {y : MethodName} {bytes : ByteArray} {maxL : Nat} (hy : ys[cal]? = some (y, Cond.code y bytes maxL none :: ev_gd)) (hd : decode cc pc = .ok (.invokespecial idx, 3)) (h1 : Cond.code y bytes maxL none ∈ ev_gd) (h2 : Cond.methodLink own idx y ∈ ev_gd) (h3 : Cond.instanceMethod y ∈ ev_gd) (h4 : Cond.initialized y.cls ∈ ev_gd) (hy1 : y.name = "<init>")
    (hdn : y.cls ≠ "java/lang/invoke/MethodHandle" ∧ y.cls ≠ "java/lang/invoke/VarHandle" ∧ (parseMethodDescriptor y.desc).map (fun d => d.parameters.length) = some na) (hm : maxL ≤ 45) (hq : pc + 3 = q) : ev_ok P r pc (ev_ini cf q cal (na + 1) : ev_O α) := by
  refine ok_inv1 X hP hR hcf hy (fun a as' S' w n H locs ls hna hS' hH hls hS w1 rv k1 hM hbud => ?_) hq
  obtain ⟨hx, hbb, hml, hown, hts, -⟩ := id X
  refine va_runI (As := as'.map (ev_v ad)) (rest := S'.map (ev_v ad)) (b := ad a) ⟨hx, hbb, hml, hown, hts⟩ hM (cwI na hts (ev_good fun w hw => ?_) rfl rfl rfl (hts _ h4) (hts _ h2) (hts _ h3) hy1 hdn ⟨hd2.1, ?_⟩) ⟨ev_blind, fun U hU hW => ⟨rfl, ev_Bof X hH hS hU hW⟩⟩ rfl (by rw [List.length_map]; exact hna) hls (by simp [ev_v]) (lv_room (ev_sum hS')) hd hbud
  · rcases List.mem_cons.mp hw with rfl | hw
    · exact h1
    · exact hw
  · show 8 + (maxL + 11) + 64 * d ≤ R.locals
    omega
theorem ok_invIN {ys : List (MethodName × List Cond)} {d : Nat} {cf : Nat → List Value → ev_W → Option ev_R} (X : ev_X cc nL own rt p s m args meth c D G ad A z) (hP : ev_PP p l e R s m args below meth c Q nL D G ad A z wE nE P) (hR : wE - z ≤ R.cells ∧ nE ≤ R.slots) (hd2 : d + 1 ≤ R.frames ∧ 64 * (d + 1) ≤ R.locals) (hcf : ev_cf l ys d cf) {cal na : Nat} {y : MethodName} {host : String} {bytes : ByteArray} {maxL : Nat} (hy : ys[cal]? = some (y, Cond.code y bytes maxL none :: ev_gd)) (hd : decode cc pc = .ok (.invokespecial idx, 3)) (h1 : Cond.code y bytes maxL none ∈ ev_gd) (h2 : Cond.methodLinkNest own idx y host ∈ ev_nw) (h3 : Cond.instanceMethod y ∈ ev_gd) (h4 : Cond.initialized y.cls ∈ ev_gd) (hy1 : y.name = "<init>")
    (hdn : y.cls ≠ "java/lang/invoke/MethodHandle" ∧ y.cls ≠ "java/lang/invoke/VarHandle" ∧ (parseMethodDescriptor y.desc).map (fun d => d.parameters.length) = some na) (hm : maxL ≤ 45) (hq : pc + 3 = q) : ev_ok P r pc (ev_ini cf q cal (na + 1) : ev_O α) := by
  refine ok_inv1 X hP hR hcf hy (fun a as' S' w n H locs ls hna hS' hH hls hS w1 rv k1 hM hbud => ?_) hq
  obtain ⟨hx, hbb, hml, hown, hts, hK, hAO, hNW, -⟩ := id X
  refine va_runIN (As := as'.map (ev_v ad)) (rest := S'.map (ev_v ad)) (b := ad a) ⟨hx, hbb, hml, hown, hts⟩ hM ⟨va_cnB na hts (ev_good fun w hw => ?_) rfl rfl rfl (hNW.1 _ h2) (hts _ h4) hdn ⟨hd2.1, ?_⟩, hy1, hts _ h3⟩ ⟨ev_blind, fun U hU hW => ⟨rfl, ev_Bof X hH hS hU hW⟩⟩ rfl (by rw [List.length_map]; exact hna) hls (by simp [ev_v]) (lv_room (ev_sum hS')) hd hbud
  · rcases List.mem_cons.mp hw with rfl | hw
    · exact h1
    · exact hw
  · show 8 + (maxL + 11) + 64 * d ≤ R.locals
    omega
end CALLS
end
section
/-! the evaluator's worlds only grow -/
abbrev ev_Pm (wE nE : Nat) : Nat → List Value → List Value → ev_W → Nat → Prop := fun _ _ _ w n => w.length ≤ wE ∧ n ≤ nE
section MO
variable {α : Type} {r : α} {wE nE pc p q i t ci kf tq : Nat}
theorem mo_use {k : ev_G α} (hk : ∀ pc' L' S' w' n', k pc' L' S' w' n' = some r → ev_Pm wE nE pc' L' S' w' n') {pc' : Nat} {L' S' : List Value} {w' : ev_W} {n' : Nat} (h : k pc' L' S' w' n' = some r) : w'.length ≤ wE ∧ n' ≤ nE := hk _ _ _ _ _ h
theorem mo_no : ev_ok (ev_Pm wE nE) r pc (ev_no : ev_O α) := fun k L S w n _ h => by cases h
theorem mo_psh {v : Value} : ev_ok (ev_Pm wE nE) r pc (ev_psh p v) := fun k L S w n hk h => mo_use hk h
theorem mo_ild : ev_ok (ev_Pm wE nE) r pc (ev_ild p i) := fun k L S w n hk h => by
  obtain ⟨v, -, h⟩ := ev_oc_some h
  obtain ⟨x, -, h⟩ := ev_ic_some h
  exact mo_use hk h
theorem mo_ald : ev_ok (ev_Pm wE nE) r pc (ev_ald p i) := fun k L S w n hk h => by
  obtain ⟨v, -, h⟩ := ev_oc_some h
  exact mo_use hk (ev_pc_some h).2
theorem mo_ist : ev_ok (ev_Pm wE nE) r pc (ev_ist p i) := fun k L S w n hk h => by
  obtain ⟨v, S', -, h⟩ := ev_lc_some h
  obtain ⟨x, -, h⟩ := ev_ic_some h
  exact mo_use hk h
theorem mo_ast : ev_ok (ev_Pm wE nE) r pc (ev_ast p i) := fun k L S w n hk h => by
  obtain ⟨v, S', -, h⟩ := ev_lc_some h
  exact mo_use hk (ev_pc_some h).2
theorem mo_inc {c : Int32} : ev_ok (ev_Pm wE nE) r pc (ev_inc p i c) := fun k L S w n hk h => by
  obtain ⟨v, -, h⟩ := ev_oc_some h
  obtain ⟨x, -, h⟩ := ev_ic_some h
  exact mo_use hk h
theorem mo_dup : ev_ok (ev_Pm wE nE) r pc (ev_dup p) := fun k L S w n hk h => by
  obtain ⟨v, S', -, h⟩ := ev_lc_some h
  exact mo_use hk (ev_c1_some h).2
theorem mo_dx1 : ev_ok (ev_Pm wE nE) r pc (ev_dx1 p) := fun k L S w n hk h => by
  obtain ⟨v, S1, -, h⟩ := ev_lc_some h
  obtain ⟨u, S', -, h⟩ := ev_lc_some (l := S1) h
  exact mo_use hk (ev_c1_some (ev_c1_some h).2).2
theorem mo_drop : ev_ok (ev_Pm wE nE) r pc (ev_drop p) := fun k L S w n hk h => by
  obtain ⟨v, S', -, h⟩ := ev_lc_some h
  exact mo_use hk (ev_c1_some h).2
theorem mo_bin {f : Int32 → Int32 → Int32} : ev_ok (ev_Pm wE nE) r pc (ev_bin p f) := fun k L S w n hk h => by
  obtain ⟨v, S1, -, h⟩ := ev_lc_some h
  obtain ⟨u, S', -, h⟩ := ev_lc_some (l := S1) h
  obtain ⟨y, -, h⟩ := ev_ic_some (v := v) h
  obtain ⟨x, -, h⟩ := ev_ic_some (v := u) h
  exact mo_use hk h
theorem mo_div {f : Int32 → Int32 → Int32} : ev_ok (ev_Pm wE nE) r pc (ev_div p f) := fun k L S w n hk h => by
  obtain ⟨v, S1, -, h⟩ := ev_lc_some h
  obtain ⟨u, S', -, h⟩ := ev_lc_some (l := S1) h
  obtain ⟨y, -, h⟩ := ev_ic_some (v := v) h
  obtain ⟨x, -, h⟩ := ev_ic_some (v := u) h
  rcases ev_bc_some h with ⟨-, h⟩ | ⟨-, h⟩
  · cases h
  · exact mo_use hk h
theorem mo_mx : ev_ok (ev_Pm wE nE) r pc (ev_mx p) := fun k L S w n hk h => by
  obtain ⟨v, S1, -, h⟩ := ev_lc_some h
  obtain ⟨u, S', -, h⟩ := ev_lc_some (l := S1) h
  obtain ⟨y, -, h⟩ := ev_ic_some (v := v) h
  obtain ⟨x, -, h⟩ := ev_ic_some (v := u) h
  exact mo_use hk (ev_bc_t h).2
theorem mo_cmp {f : Int32 → Int32 → Bool} : ev_ok (ev_Pm wE nE) r pc (ev_cmp p t f) := fun k L S w n hk h => by
  obtain ⟨v, S1, -, h⟩ := ev_lc_some h
  obtain ⟨u, S', -, h⟩ := ev_lc_some (l := S1) h
  obtain ⟨y, -, h⟩ := ev_ic_some (v := v) h
  obtain ⟨x, -, h⟩ := ev_ic_some (v := u) h
  rcases ev_bc_some h with ⟨-, h⟩ | ⟨-, h⟩ <;> exact mo_use hk h
theorem mo_cm0 {f : Int32 → Bool} : ev_ok (ev_Pm wE nE) r pc (ev_cm0 p t f) := fun k L S w n hk h => by
  obtain ⟨v, S', -, h⟩ := ev_lc_some h
  obtain ⟨x, -, h⟩ := ev_ic_some (v := v) h
  rcases ev_bc_some h with ⟨-, h⟩ | ⟨-, h⟩ <;> exact mo_use hk h
theorem mo_acm : ev_ok (ev_Pm wE nE) r pc (ev_acm p q) := fun k L S w n hk h => by
  obtain ⟨v, S1, -, h⟩ := ev_lc_some h
  obtain ⟨u, S', -, h⟩ := ev_lc_some (l := S1) h
  have h2 : ∃ a, ev_rn u (fun b => ev_bc (Nat.beq b a) (k p L S' w n) (ev_pl w a (ev_pl w b (k q L S' w n)))) = some r := by
    rcases ev_rn_some (v := v) h with ⟨-, h⟩ | ⟨x, -, h⟩ <;> exact ⟨_, h⟩
  obtain ⟨a, h2⟩ := h2
  have h3 : ∃ b, ev_bc (Nat.beq b a) (k p L S' w n) (ev_pl w a (ev_pl w b (k q L S' w n))) = some r := by
    rcases ev_rn_some (v := u) h2 with ⟨-, h⟩ | ⟨x, -, h⟩ <;> exact ⟨_, h⟩
  obtain ⟨b, h3⟩ := h3
  rcases ev_bc_some h3 with ⟨-, h⟩ | ⟨-, h⟩
  · exact mo_use hk h
  · exact mo_use hk (ev_pl_some (ev_pl_some h).1).1
theorem mo_jmp : ev_ok (ev_Pm wE nE) r pc (ev_jmp t) := fun k L S w n hk h => mo_use hk h
theorem mo_aln : ev_ok (ev_Pm wE nE) r pc (ev_aln p) := fun k L S w n hk h => by
  obtain ⟨v, S', -, h⟩ := ev_lc_some h
  obtain ⟨a, -, h⟩ := ev_rc_some (v := v) h
  obtain ⟨c, -, h⟩ := ev_oc_some h
  exact mo_use hk (ev_bc_t h).2
theorem mo_get : ev_ok (ev_Pm wE nE) r pc (ev_get p ci kf) := fun k L S w n hk h => by
  obtain ⟨v, S', -, h⟩ := ev_lc_some h
  obtain ⟨a, -, h⟩ := ev_rc_some (v := v) h
  obtain ⟨c, -, h⟩ := ev_oc_some h
  obtain ⟨u, -, h⟩ := ev_oc_some (ev_bc_t h).2
  exact mo_use hk h
theorem mo_ldi : ev_ok (ev_Pm wE nE) r pc (ev_ldi p t) := fun k L S w n hk h => by
  obtain ⟨v, S1, -, h⟩ := ev_lc_some h
  obtain ⟨u, S', -, h⟩ := ev_lc_some (l := S1) h
  obtain ⟨y, -, h⟩ := ev_ic_some (v := v) h
  obtain ⟨a, -, h⟩ := ev_rc_some (v := u) h
  obtain ⟨c, -, h⟩ := ev_oc_some h
  obtain ⟨u, -, h⟩ := ev_oc_some (ev_bc_t h).2
  obtain ⟨x, -, h⟩ := ev_ic_some (v := u) h
  exact mo_use hk h
theorem mo_ldq : ev_ok (ev_Pm wE nE) r pc (ev_ldq p) := fun k L S w n hk h => by
  obtain ⟨v, S1, -, h⟩ := ev_lc_some h
  obtain ⟨u, S', -, h⟩ := ev_lc_some (l := S1) h
  obtain ⟨y, -, h⟩ := ev_ic_some (v := v) h
  obtain ⟨a, -, h⟩ := ev_rc_some (v := u) h
  obtain ⟨c, -, h⟩ := ev_oc_some h
  obtain ⟨u, -, h⟩ := ev_oc_some (ev_bc_t h).2
  exact mo_use hk (ev_pc_some h).2
theorem mo_sti {g : Int32 → Int32} : ev_ok (ev_Pm wE nE) r pc (ev_sti p t g) := fun k L S w n hk h => by
  obtain ⟨x, i, a, S', c0, -, -, -, -, h⟩ := ev_sti_some h
  have := mo_use hk h
  rw [List.length_set] at this
  exact this
theorem mo_stq : ev_ok (ev_Pm wE nE) r pc (ev_stq p t) := fun k L S w n hk h => by
  obtain ⟨y, S0, -, h⟩ := ev_lc_some h
  obtain ⟨v, S1, -, h⟩ := ev_lc_some (l := S0) h
  obtain ⟨u, S', -, h⟩ := ev_lc_some (l := S1) h
  obtain ⟨i, -, h⟩ := ev_ic_some (v := v) h
  obtain ⟨a, -, h⟩ := ev_rc_some (v := u) h
  obtain ⟨c, -, h⟩ := ev_oc_some h
  obtain ⟨-, h⟩ := ev_bc_t h
  have h2 : k p L S' (ev_set w a (c.1, c.2.1, ev_set c.2.2 (ev_bits i) y)) n = some r := by
    rcases ev_rn_some (v := y) h with ⟨-, h⟩ | ⟨x, -, h⟩
    · exact h
    · obtain ⟨d, -, h⟩ := ev_oc_some (show ev_oc (ev_at w x) _ = some r from h)
      exact (ev_bc_t h).2
  have := mo_use hk h2
  rw [ev_set_eq, List.length_set] at this
  exact this
theorem mo_fit {q : Nat} {v : Value} {y : Option α} (h : ev_fit q v y = some r) : y = some r := by
  match q, h with
  | 0, h =>
    obtain ⟨x, -, h⟩ := ev_ic_some (v := v) h
    exact h
  | 1, h => exact (ev_pc_some (v := v) h).2
  | 2, h =>
    obtain ⟨x, -, h⟩ := ev_ic_some (v := v) h
    exact (ev_bc_t h).2
  | q + 3, h =>
    obtain ⟨x, -, h⟩ := ev_jc_some (v := v) h
    exact h
theorem mo_ptf : ev_ok (ev_Pm wE nE) r pc (ev_ptf p ci kf tq) := fun k L S w n hk h => by
  obtain ⟨v, S1, -, h⟩ := ev_lc_some h
  obtain ⟨u, S', -, h⟩ := ev_lc_some (l := S1) h
  obtain ⟨a, -, h⟩ := ev_rc_some (v := u) h
  obtain ⟨c, -, h⟩ := ev_oc_some h
  have := mo_use hk (mo_fit (ev_bc_t h).2)
  rw [ev_set_eq, List.length_set] at this
  exact this
theorem mo_nwa {v0 : Value} : ev_ok (ev_Pm wE nE) r pc (ev_nwa p t v0) := fun k L S w n hk h => by
  obtain ⟨i, S', -, -, h⟩ := ev_nwa_some h
  have := mo_use hk h
  rw [List.length_append, List.length_singleton] at this
  exact ⟨by omega, by omega⟩
theorem mo_new {N : Nat} {dv : List Value} : ev_ok (ev_Pm wE nE) r pc (ev_new p ci N dv) := fun k L S w n hk h => by
  have := mo_use hk h
  rw [List.length_append, List.length_singleton] at this
  exact ⟨by omega, by omega⟩
theorem mo_gst {a : Nat} : ev_ok (ev_Pm wE nE) r pc (ev_gst p a) := fun k L S w n hk h => mo_use hk h
theorem mo_cst : ev_ok (ev_Pm wE nE) r pc (ev_cst p t) := fun k L S w n hk h => by
  obtain ⟨v, S', -, h⟩ := ev_lc_some h
  obtain ⟨a, -, h⟩ := ev_rc_some (v := v) h
  obtain ⟨c, -, h⟩ := ev_oc_some h
  exact mo_use hk (ev_bc_t h).2
theorem mo_i2l : ev_ok (ev_Pm wE nE) r pc (ev_i2l p) := fun k L S w n hk h => by
  obtain ⟨v, S', -, h⟩ := ev_lc_some h
  obtain ⟨x, -, h⟩ := ev_ic_some (v := v) h
  exact mo_use hk h
theorem mo_lcm : ev_ok (ev_Pm wE nE) r pc (ev_lcm p) := fun k L S w n hk h => by
  obtain ⟨v, S1, -, h⟩ := ev_lc_some h
  obtain ⟨u, S', -, h⟩ := ev_lc_some (l := S1) h
  obtain ⟨y, -, h⟩ := ev_jc_some (v := v) h
  obtain ⟨x, -, h⟩ := ev_jc_some (v := u) h
  exact mo_use hk h
theorem mo_tsw {ts : List Nat} : ev_ok (ev_Pm wE nE) r pc (ev_tsw ts) := fun k L S w n hk h => by
  obtain ⟨v, S', -, h⟩ := ev_lc_some h
  obtain ⟨x, -, h⟩ := ev_ic_some (v := v) h
  obtain ⟨t, -, h⟩ := ev_oc_some (ev_bc_t h).2
  exact mo_use hk h
theorem mo_obj : ev_ok (ev_Pm wE nE) r pc (ev_obj p) := fun k L S w n hk h => by
  obtain ⟨v, S', -, h⟩ := ev_lc_some h
  obtain ⟨x, -, h⟩ := ev_rc_some (v := v) h
  exact mo_use hk (ev_bc_t h).2
def ev_cm (cf : Nat → List Value → ev_W → Option ev_R) : Prop := ∀ (y : Nat) (vs : List Value) (w w1 : ev_W) (rv : Option Value) (k1 : Nat), cf y vs w = some (rv, w1, k1) → w.length ≤ w1.length
theorem mo_inv {cf : Nat → List Value → ev_W → Option ev_R} (hcm : ev_cm cf) {cal na : Nat} : ev_ok (ev_Pm wE nE) r pc (ev_inv cf p cal na : ev_O α) := fun k L S w n hk h => by
  obtain ⟨as, S', -, -, h⟩ := ev_pop_some _ _ _ _ h
  obtain ⟨⟨rv, w1, k1⟩, hc, h⟩ := ev_oc_some (ev_bc_t h).2
  have h1 := mo_use hk h
  have h2 := hcm _ _ _ _ _ _ hc
  exact ⟨Nat.le_trans h2 h1.1, Nat.le_trans (Nat.le_add_right _ _) h1.2⟩
theorem mo_ini {cf : Nat → List Value → ev_W → Option ev_R} (hcm : ev_cm cf) {cal na : Nat} : ev_ok (ev_Pm wE nE) r pc (ev_ini cf p cal na : ev_O α) := fun k L S w n hk h => by
  obtain ⟨as, S', -, -, h⟩ := ev_pop_some _ _ _ _ h
  obtain ⟨v, t, -, h⟩ := ev_lc_some h
  obtain ⟨a, -, h⟩ := ev_rc_some (v := v) h
  obtain ⟨⟨rv, w1, k1⟩, hc, h⟩ := ev_oc_some (ev_bc_t h).2
  have h1 := mo_use hk h
  have h2 := hcm _ _ _ _ _ _ hc
  exact ⟨Nat.le_trans h2 h1.1, Nat.le_trans (Nat.le_add_right _ _) h1.2⟩
theorem mo_inr {cf : Nat → List Value → ev_W → Option ev_R} (hcm : ev_cm cf) {cal na : Nat} : ev_ok (ev_Pm wE nE) r pc (ev_inr cf p cal na ci : ev_O α) := fun k L S w n hk h => by
  obtain ⟨as, S', -, -, h⟩ := ev_pop_some _ _ _ _ h
  obtain ⟨v, t, -, h⟩ := ev_lc_some h
  obtain ⟨a, -, h⟩ := ev_rc_some (v := v) h
  obtain ⟨c, -, h⟩ := ev_oc_some h
  obtain ⟨⟨rv, w1, k1⟩, hc, h⟩ := ev_oc_some (ev_bc_t h).2
  have h1 := mo_use hk h
  have h2 := hcm _ _ _ _ _ _ hc
  exact ⟨Nat.le_trans h2 h1.1, Nat.le_trans (Nat.le_add_right _ _) h1.2⟩
variable {fin : Option Value → ev_W → Nat → Option α}
theorem mo_rti (hfin : ∀ v w n, fin v w n = some r → w.length = wE ∧ n = nE) : ev_ok (ev_Pm wE nE) r pc (ev_rti fin) := fun k L S w n hk h => by
  obtain ⟨v, S', -, h⟩ := ev_lc_some h
  obtain ⟨x, -, h⟩ := ev_ic_some (v := v) h
  cases S' with
  | cons _ _ => cases h
  | nil => have := hfin _ _ _ h; exact ⟨by omega, by omega⟩
theorem mo_rtz (hfin : ∀ v w n, fin v w n = some r → w.length = wE ∧ n = nE) : ev_ok (ev_Pm wE nE) r pc (ev_rtz fin) := fun k L S w n hk h => by
  obtain ⟨v, S', -, h⟩ := ev_lc_some h
  obtain ⟨x, -, h⟩ := ev_ic_some (v := v) h
  obtain ⟨-, h⟩ := ev_bc_t h
  cases S' with
  | cons _ _ => cases h
  | nil => have := hfin _ _ _ h; exact ⟨by omega, by omega⟩
theorem mo_rta (hfin : ∀ v w n, fin v w n = some r → w.length = wE ∧ n = nE) : ev_ok (ev_Pm wE nE) r pc (ev_rta fin) := fun k L S w n hk h => by
  obtain ⟨v, S', -, h⟩ := ev_lc_some h
  obtain ⟨-, h⟩ := ev_pc_some h
  cases S' with
  | cons _ _ => cases h
  | nil => have := hfin _ _ _ h; exact ⟨by omega, by omega⟩
theorem mo_rtv (hfin : ∀ v w n, fin v w n = some r → w.length = wE ∧ n = nE) : ev_ok (ev_Pm wE nE) r pc (ev_rtv fin) := fun k L S w n hk h => by
  cases S with
  | cons _ _ => cases h
  | nil => have := hfin _ _ _ h; exact ⟨by omega, by omega⟩
end MO
/-! tables of operations; runs -/
def ev_all {α : Type} (Pk : Nat → ev_O α → Prop) : Nat → List (ev_O α) → Prop
  | _, [] => True
  | b, o :: t => Pk b o ∧ ev_all Pk (b + 1) t
def ev_all2 {α : Type} (Pk : Nat → ev_O α → Prop) : Nat → List (List (ev_O α)) → Prop
  | _, [] => True
  | b, o :: t => ev_all Pk (16 * b) o ∧ ev_all2 Pk (b + 1) t
theorem ev_a0 {α : Type} {Pk : Nat → ev_O α → Prop} {b : Nat} : ev_all Pk b [] := trivial
theorem ev_a {α : Type} {Pk : Nat → ev_O α → Prop} {b : Nat} {o : ev_O α} {t : List (ev_O α)} (h : Pk b o) (ht : ev_all Pk (b + 1) t) : ev_all Pk b (o :: t) := ⟨h, ht⟩
theorem ev_b0 {α : Type} {Pk : Nat → ev_O α → Prop} {b : Nat} : ev_all2 Pk b [] := trivial
theorem ev_b {α : Type} {Pk : Nat → ev_O α → Prop} {b : Nat} {o : List (ev_O α)} {t : List (List (ev_O α))} (h : ev_all Pk (16 * b) o) (ht : ev_all2 Pk (b + 1) t) : ev_all2 Pk b (o :: t) := ⟨h, ht⟩
theorem ev_all_at {α : Type} {Pk : Nat → ev_O α → Prop} : ∀ (l : List (ev_O α)) (b j : Nat) (o : ev_O α), ev_all Pk b l → l[j]? = some o → Pk (b + j) o := by
  intro l
  induction l with
  | nil => intro b j o _ h; cases h
  | cons a l ih =>
    intro b j o h hj
    cases j with
    | zero => cases hj; exact h.1
    | succ j => rw [show b + (j + 1) = (b + 1) + j by omega]; exact ih _ _ _ h.2 (by simpa using hj)
theorem ev_all2_at {α : Type} {Pk : Nat → ev_O α → Prop} : ∀ (l : List (List (ev_O α))) (b j : Nat) (c : List (ev_O α)), ev_all2 Pk b l → l[j]? = some c → ev_all Pk (16 * (b + j)) c := by
  intro l
  induction l with
  | nil => intro b j o _ h; cases h
  | cons a l ih =>
    intro b j o h hj
    cases j with
    | zero => cases hj; exact h.1
    | succ j => rw [show b + (j + 1) = (b + 1) + j by omega]; exact ih _ _ _ h.2 (by simpa using hj)
theorem ev_run_ok {α : Type} {P : Nat → List Value → List Value → ev_W → Nat → Prop} {r : α} {tb : List (List (ev_O α))} {stop : ev_G α} (htb : ev_all2 (ev_ok P r) 0 tb) (hstop : ∀ pc L S w n, stop pc L S w n = some r → P pc L S w n) : ∀ (f pc : Nat) (L S : List Value) (w : ev_W) (n : Nat), ev_run tb stop f pc L S w n = some r → P pc L S w n := by
  intro f
  induction f with
  | zero => intro pc L S w n h; exact hstop pc L S w n h
  | succ f ih =>
    intro pc L S w n h
    obtain ⟨o, ho, h1⟩ := ev_oc_some (show ev_oc (ev_oc (ev_at tb (pc / 16)) fun c => ev_at c (pc % 16)) (fun o => o (ev_run tb stop f) L S w n) = some r from h)
    obtain ⟨c, hc, hoc⟩ := ev_oc_some ho
    rw [ev_at_eq] at hc hoc
    have h2 := ev_all_at c _ _ o (ev_all2_at tb 0 _ c htb hc) hoc
    rw [Nat.zero_add, Nat.div_add_mod] at h2
    exact h2 _ L S w n (fun pc' L' S' w' n' hk => ih pc' L' S' w' n' hk) h1
theorem ev_all_map {α : Type} {Pk Pl : Nat → ev_O α → Prop} (h : ∀ b o, Pk b o → Pl b o) : ∀ (l : List (ev_O α)) (b : Nat), ev_all Pk b l → ev_all Pl b l
  | [], _, _ => trivial
  | _ :: t, _, hl => ⟨h _ _ hl.1, ev_all_map h t _ hl.2⟩
/-- the locals that a method begins with -/
theorem ev_l_entry {ad : Nat → Nat} {vs pad : List Value} {nL : Nat} (hv : ∀ v ∈ vs, v.category = 1) (hp : ∀ v ∈ pad, v = .retAddr 0) (hn : vs.length ≤ nL) : lv_has ((lg_sl (vs.map (ev_v ad)) ++ List.replicate (nL - (lg_sl (vs.map (ev_v ad))).length) Slot.unset).toArray) nL (ev_l ad (vs ++ pad)) := by
  have hsl : ∀ us : List Value, (∀ v ∈ us, v.category = 1) → lg_sl (us.map (ev_v ad)) = us.map (fun v => Slot.val (ev_v ad v)) := by
    intro us
    induction us with
    | nil => intro _; rfl
    | cons v us ih =>
      intro h
      have h1 : (ev_v ad v).category = 1 := ev_v_cat.trans (h v List.mem_cons_self)
      have h2 := ih fun u hu => h u (List.mem_cons_of_mem _ hu)
      unfold lg_sl at h2 ⊢
      simp only [List.map_cons, List.flatMap_cons, h1]
      rw [h2]
      rfl
  have hlen : (lg_sl (vs.map (ev_v ad))).length = vs.length := by rw [hsl vs hv, List.length_map]
  have h0 := lv_entry (vs.map (ev_v ad)) (n := nL) (by rw [hlen]; exact hn)
  refine ⟨h0.1, h0.2.1, fun q hq => ?_⟩
  obtain ⟨i, v⟩ := q
  obtain ⟨u, h1, rfl, h3⟩ := ev_l_mem.mp hq
  by_cases hi : i < vs.length
  · rw [List.getElem?_append_left hi] at h1
    rw [List.getElem?_toArray, List.getElem?_append_left (by rw [hlen]; exact hi), hsl vs hv, List.getElem?_map, h1]
    rfl
  · rw [List.getElem?_append_right (by omega)] at h1
    have := hp u (List.mem_of_getElem? h1)
    subst this
    cases h3
end
section
/-! a method's body, by its table -/
theorem ev_body {l : Launch} {ys : List (MethodName × List Cond)} {d : Nat} {nm : MethodName} {bytes : ByteArray} {nL : Nat} {ret : Option FieldType} {ws : List Cond} (hws : ∀ w ∈ ev_gd, w ∈ ws) {tb : List (List (ev_O ev_R))} {pad vs : List Value} {w w1 : ev_W} {rv : Option Value} {k1 : Nat}
    (htab : ∀ (p : Program) (e : Env) (R : Room) (s : State) (m : MethodId) (args : Array Value) (below : List Frame) (meth : Method) (c : Code) (Q : State → Prop) (D : va_G) (G : Nat → ClassId) (ad : Nat → Nat) (A : Nat → Prop) (z wE nE : Nat) (P : Nat → List Value → List Value → ev_W → Nat → Prop) (r : ev_R),
      ev_X bytes nL nm.cls ret p s m args meth c D G ad A z → ev_PP p l e R s m args below meth c Q nL D G ad A z wE nE P → (wE - z ≤ R.cells ∧ nE ≤ R.slots) → (d + 1 ≤ R.frames ∧ 64 * (d + 1) ≤ R.locals) → meth.name = nm.name → ∀ Qc, Q = MQ below Qc args s (wE - z) nE A →
      (∀ (v : Option Value) (w : ev_W) (n : Nat), (fun r w n => some (r, w, n) : Option Value → ev_W → Nat → Option ev_R) v w n = some r → w.length = wE ∧ n = nE ∧ ∀ H locs, ev_H D G ad A w H → va_S A s.heap H locs → ∀ t : State, t.heap = H → s.WarmedH t.vm → Qc args s (.returned (v.map (ev_v ad))) t) → ev_all2 (ev_ok P r) 0 tb)
    (hcat : ∀ v ∈ vs, v.category = 1) (hpad : ∀ v ∈ pad, v = .retAddr 0) (hn : vs.length ≤ nL) (hrun : ev_run tb (fun _ _ _ _ _ => none) 100000 0 (vs ++ pad) [] w 0 = some (rv, w1, k1))
    {D : va_G} {G : Nat → ClassId} {ad : Nat → Nat} {A : Nat → Prop} {z : Nat} (had : ∀ k, z ≤ k → ad (k + 1) = ad k + 1) (hz : z ≤ w.length)
    {p : Program} {e : Env} {s : State} {m : MethodId} {args : Array Value} {below : List Frame} {meth : Method} {c : Code} {s₁ : State} (B : BodyLoose p l nm (headSpec ws (ev_rm (d + 1) (w1.length - w.length) k1)) bytes nL ret e s m args below meth c s₁) (hml : c.maxLocals = nL) (hv : ev_Pc D G ad A vs w args s) :
    W p l e (headSpec ws (ev_rm (d + 1) (w1.length - w.length) k1)).room s m args below meth c s.heap [] 0 0 (MQ below (ev_Qc D G ad A rv w1) args s (w1.length - w.length) k1 A) (entryFrame m args nL) := by
  obtain ⟨rfl, hH, hK, hAO, hNW, hZ, hA⟩ := hv
  have hts0 := atoms_spec (ws := ws) B.pre
  have hown : s.vm.findClass nm.cls = some m.cls := findClass_of_methodNamed B.named
  have hin : meth.name = nm.name := (name_of_methodNamed B.named B.method).1
  have had' : ∀ k, w.length ≤ k → ad (k + 1) = ad k + 1 := fun k hk => had k (Nat.le_trans hz hk)
  have X : ev_X bytes nL nm.cls ret p s m ((vs.map (ev_v ad)).toArray) meth c D G ad A w.length := ⟨B.exec, B.bytes, hml, hown, fun w hw => hts0 w (hws w hw), hK, hAO, hNW, hZ, hA, B.notSynchronized, B.returns, had'⟩
  let P : Nat → List Value → List Value → ev_W → Nat → Prop := fun pc L S w' n => w.length ≤ w'.length → (w'.length ≤ w1.length ∧ n ≤ k1) ∧ ∀ (H : Heap) (locs : List Loc) (ls : Array Slot), ev_H D G ad A w' H → lv_has ls nL (ev_l ad L) → va_S A s.heap H locs → W p l e (headSpec ws (ev_rm (d + 1) (w1.length - w.length) k1)).room s m ((vs.map (ev_v ad)).toArray) below meth c H locs (w'.length - w.length) n (MQ below (ev_Qc D G ad A rv w1) ((vs.map (ev_v ad)).toArray) s (w1.length - w.length) k1 A) (F0 m pc ls (S.map (ev_v ad)))
  have htb := htab p e (headSpec ws (ev_rm (d + 1) (w1.length - w.length) k1)).room s m ((vs.map (ev_v ad)).toArray) below meth c (MQ below (ev_Qc D G ad A rv w1) ((vs.map (ev_v ad)).toArray) s (w1.length - w.length) k1 A) D G ad A w.length w1.length k1 P (rv, w1, k1) X (fun _ _ _ _ _ => Iff.rfl) ⟨Nat.le_refl _, Nat.le_refl _⟩ ⟨Nat.le_refl _, Nat.le_refl _⟩ hin (ev_Qc D G ad A rv w1) rfl (fun v w' n h => by
    cases h
    exact ⟨rfl, rfl, fun H locs hH' hS t ht hW => ⟨rfl, by rw [ht]; exact hH', hS.F ht⟩⟩)
  have h := ev_run_ok htb (fun _ _ _ _ _ h => by cases h) 100000 0 (vs ++ pad) [] w 0 hrun (Nat.le_refl _)
  rw [lg_entry_eq]
  have h2 := h.2 s.heap [] _ hH (ev_l_entry hcat hpad hn) va_S.rf
  rw [Nat.sub_self] at h2
  exact h2
theorem ev_cat_some {α : Type} {y : Option α} {r : α} : ∀ (vs : List Value), ev_cat vs y = some r → (∀ v ∈ vs, v.category = 1) ∧ y = some r := by
  intro vs
  induction vs with
  | nil => intro h; exact ⟨(fun v hv => by cases hv), h⟩
  | cons v vs ih =>
    intro h
    obtain ⟨h1, h2⟩ := ev_c1_some (show ev_c1 v (ev_cat vs y) = some r from h)
    obtain ⟨h3, h4⟩ := ih h2
    refine ⟨fun u hu => ?_, h4⟩
    rcases List.mem_cons.mp hu with rfl | hu
    · exact h1
    · exact h3 u hu
/-- what a method's row must be: its words over the machine, d + 1 deep -/
def ev_row (l : Launch) (d : Nat) (q : MethodName × List Cond) (M : ev_Y) : Prop := ∀ (vs : List Value) (w w1 : ev_W) (rv : Option Value) (k1 : Nat), ev_go M vs w = some (rv, w1, k1) → w.length ≤ w1.length ∧ ∀ (D : va_G) (G : Nat → ClassId) (ad : Nat → Nat) (A : Nat → Prop) (z : Nat), (∀ k, z ≤ k → ad (k + 1) = ad k + 1) → z ≤ w.length →
    Met l q.1 q.2 (ev_rm (d + 1) (w1.length - w.length) k1) (ev_Pc D G ad A vs w) (ev_Qc D G ad A rv w1) (w1.length - w.length) k1 A
theorem ev_go_some {M : ev_Y} {vs : List Value} {w : ev_W} {r : ev_R} (h : ev_go M vs w = some r) : vs.length = M.1 ∧ (∀ v ∈ vs, v.category = 1) ∧ ev_run M.2.2 (fun _ _ _ _ _ => none) 100000 0 (vs ++ M.2.1) [] w 0 = some r := by
  obtain ⟨h1, h2⟩ := ev_bc_t h
  obtain ⟨h3, h4⟩ := ev_cat_some vs h2
  refine ⟨?_, h3, h4⟩
  have := Nat.eq_of_beq_eq_true h1
  rw [ev_len_eq] at this
  exact this
theorem ev_row_mono {tb : List (List (ev_O ev_R))} (hmo : ∀ (r : ev_R) (wE nE : Nat), (∀ (v : Option Value) (w : ev_W) (n : Nat), (fun r w n => some (r, w, n) : Option Value → ev_W → Nat → Option ev_R) v w n = some r → w.length = wE ∧ n = nE) → ev_all2 (ev_ok (ev_Pm wE nE) r) 0 tb) {L : List Value} {w w1 : ev_W} {rv : Option Value} {k1 : Nat} (h : ev_run tb (fun _ _ _ _ _ => none) 100000 0 L [] w 0 = some (rv, w1, k1)) : w.length ≤ w1.length :=
  (ev_run_ok (P := ev_Pm w1.length k1) (hmo (rv, w1, k1) w1.length k1 (fun v w' n h => by cases h; exact ⟨rfl, rfl⟩)) (fun _ _ _ _ _ h => by cases h) 100000 0 L [] w 0 h).1
abbrev ev_ht (l : Launch) (d : Nat) (nm : MethodName) (bytes : ByteArray) (nL : Nat) (ret : Option FieldType) (tb : List (List (ev_O ev_R))) : Prop := ∀ (p : Program) (e : Env) (R : Room) (s : State) (m : MethodId) (args : Array Value) (below : List Frame) (meth : Method) (c : Code) (Q : State → Prop) (D : va_G) (G : Nat → ClassId) (ad : Nat → Nat) (A : Nat → Prop) (z wE nE : Nat) (P : Nat → List Value → List Value → ev_W → Nat → Prop) (r : ev_R),
      ev_X bytes nL nm.cls ret p s m args meth c D G ad A z → ev_PP p l e R s m args below meth c Q nL D G ad A z wE nE P → (wE - z ≤ R.cells ∧ nE ≤ R.slots) → (d + 1 ≤ R.frames ∧ 64 * (d + 1) ≤ R.locals) → meth.name = nm.name → ∀ Qc, Q = MQ below Qc args s (wE - z) nE A →
      (∀ (v : Option Value) (w : ev_W) (n : Nat), (fun r w n => some (r, w, n) : Option Value → ev_W → Nat → Option ev_R) v w n = some r → w.length = wE ∧ n = nE ∧ ∀ H locs, ev_H D G ad A w H → va_S A s.heap H locs → ∀ t : State, t.heap = H → s.WarmedH t.vm → Qc args s (.returned (v.map (ev_v ad))) t) → ev_all2 (ev_ok P r) 0 tb
theorem ev_row_code {l : Launch} {d : Nat} {nm : MethodName} {bytes : ByteArray} {nL na : Nat} {ret : Option FieldType} {tb : List (List (ev_O ev_R))} {pad : List Value} (hy : plainName nm.cls = true) (hmo : ∀ (r : ev_R) (wE nE : Nat), (∀ (v : Option Value) (w : ev_W) (n : Nat), (fun r w n => some (r, w, n) : Option Value → ev_W → Nat → Option ev_R) v w n = some r → w.length = wE ∧ n = nE) → ev_all2 (ev_ok (ev_Pm wE nE) r) 0 tb) (htab : ev_ht l d nm bytes nL ret tb) (hpad : ∀ v ∈ pad, v = .retAddr 0) (hn : na ≤ nL) : ev_row l d (nm, Cond.code nm bytes nL ret :: ev_gd) (na, pad, tb) := by
  intro vs w w1 rv k1 h
  obtain ⟨hlen, hcat, hrun⟩ := ev_go_some h
  refine ⟨ev_row_mono hmo hrun, fun D G ad A z had hz => ?_⟩
  refine Met.ofW (cc := bytes) (maxL := nL) (ret := ret) hy rfl ?_
  intro p e s m args below meth c s₁ B hml hv
  exact ev_body (ys := []) (fun w hw => List.mem_cons_of_mem _ hw) htab hcat hpad (by rw [hlen]; exact hn) hrun had hz B hml hv
theorem ev_row_codeW {l : Launch} {d : Nat} {nm : MethodName} {bytes : ByteArray} {nL na : Nat} {ret : Option FieldType} {hh : List (Nat × Nat × Nat × Nat)} {tb : List (List (ev_O ev_R))} {pad : List Value} (hy : plainName nm.cls = true) (hmo : ∀ (r : ev_R) (wE nE : Nat), (∀ (v : Option Value) (w : ev_W) (n : Nat), (fun r w n => some (r, w, n) : Option Value → ev_W → Nat → Option ev_R) v w n = some r → w.length = wE ∧ n = nE) → ev_all2 (ev_ok (ev_Pm wE nE) r) 0 tb) (htab : ev_ht l d nm bytes nL ret tb) (hpad : ∀ v ∈ pad, v = .retAddr 0) (hn : na ≤ nL) : ev_row l d (nm, Cond.codeWith nm bytes nL ret hh :: ev_gd) (na, pad, tb) := by
  intro vs w w1 rv k1 h
  obtain ⟨hlen, hcat, hrun⟩ := ev_go_some h
  refine ⟨ev_row_mono hmo hrun, fun D G ad A z had hz => ?_⟩
  refine va_MetW (cc := bytes) (maxL := nL) (ret := ret) hy rfl ?_
  intro p e s m args below meth c s₁ B hml hv
  exact ev_body (ys := []) (fun w hw => List.mem_cons_of_mem _ hw) htab hcat hpad (by rw [hlen]; exact hn) hrun had hz B hml hv
theorem ev_row_none {l : Launch} {d : Nat} {q : MethodName × List Cond} {pad : List Value} {na : Nat} : ev_row l d q (na, pad, []) := by
  intro vs w w1 rv k1 h
  obtain ⟨-, -, hrun⟩ := ev_go_some h
  exact (ev_run_ok (P := fun _ _ _ _ _ => False) (tb := []) (r := (rv, w1, k1)) ev_b0 (fun _ _ _ _ _ h => by cases h) 100000 0 _ [] w 0 hrun).elim
def ev_rows (l : Launch) (d : Nat) : List (MethodName × List Cond) → List ev_Y → Prop
  | q :: t, M :: u => ev_row l d q M ∧ ev_rows l d t u
  | [], [] => True
  | _, _ => False
theorem ev_r0 {l : Launch} {d : Nat} : ev_rows l d [] [] := trivial
theorem ev_r {l : Launch} {d : Nat} {q : MethodName × List Cond} {M : ev_Y} {t : List (MethodName × List Cond)} {u : List ev_Y} (h : ev_row l d q M) (ht : ev_rows l d t u) : ev_rows l d (q :: t) (M :: u) := ⟨h, ht⟩
theorem ev_rows_at {l : Launch} {d : Nat} : ∀ (ys : List (MethodName × List Cond)) (Ms : List ev_Y) (y : Nat) (M : ev_Y), ev_rows l d ys Ms → Ms[y]? = some M → ∃ q, ys[y]? = some q ∧ ev_row l d q M := by
  intro ys
  induction ys with
  | nil =>
    intro Ms y M h hM
    cases Ms with
    | nil => cases hM
    | cons _ _ => exact h.elim
  | cons q ys ih =>
    intro Ms y M h hM
    cases Ms with
    | nil => exact h.elim
    | cons N Ms =>
      cases y with
      | zero => cases hM; exact ⟨q, rfl, h.1⟩
      | succ y =>
        obtain ⟨q', h1, h2⟩ := ih Ms y M h.2 (by simpa using hM)
        exact ⟨q', by simpa using h1, h2⟩
end
section
/-! words, by their places in the tables; the classes' fields; the methods' names and words -/
theorem ev_mem {w : Cond} (i : Nat) (h : lw_tbl[i]? = some w) (g : goodWord w = true) : w ∈ ev_gd := List.mem_filter.mpr ⟨List.mem_of_getElem? h, g⟩
theorem ev_memN {w : Cond} (i : Nat) (h : lw_tbl[i]? = some w) (g : ev_nk w = true) : w ∈ ev_nw := List.mem_filter.mpr ⟨List.mem_of_getElem? h, g⟩
theorem ev_in0 : ∀ w ∈ u_ws RJ0 TJ0 4, w ∈ ev_gd := by decide +kernel
theorem ev_in1 : ∀ w ∈ u_ws RJ4 TJ4 4, w ∈ ev_gd := by decide +kernel
theorem ev_in2 : ∀ w ∈ u_ws RJ6 TJ6 1, w ∈ ev_gd := by decide +kernel
theorem ev_in3 : ∀ w ∈ u_ws RJx35411 TJx35411 4, w ∈ ev_gd := by decide +kernel
theorem ev_in4 : ∀ w ∈ u_ws RJx4a65c TJx4a65c 3, w ∈ ev_gd := by decide +kernel
theorem ev_in5 : ∀ w ∈ u_ws RX0 TX0 3, w ∈ ev_gd := by decide +kernel
theorem ev_in6 : ∀ w ∈ u_ws RX1 TX1 2, w ∈ ev_gd := by decide +kernel
theorem ev_in7 : ∀ w ∈ u_ws RX2 TX2 3, w ∈ ev_gd := by decide +kernel
theorem ev_in8 : ∀ w ∈ u_ws RX3 TX3 6, w ∈ ev_gd := by decide +kernel
theorem ev_in9 : ∀ w ∈ u_ws RX4 TX4 2, w ∈ ev_gd := by decide +kernel
theorem ev_in10 : ∀ w ∈ u_ws RX5 TX5 3, w ∈ ev_gd := by decide +kernel
theorem ev_in11 : ∀ w ∈ u_ws RX6 TX6 9, w ∈ ev_gd := by decide +kernel
theorem ev_in12 : ∀ w ∈ u_ws RX7 TX7 6, w ∈ ev_gd := by decide +kernel
theorem ev_in13 : ∀ w ∈ u_ws RX8 TX8 4, w ∈ ev_gd := by decide +kernel
theorem ev_in14 : ∀ w ∈ u_ws RX9 TX9 1, w ∈ ev_gd := by decide +kernel
theorem ev_in15 : ∀ w ∈ u_ws RX10 TX10 16, w ∈ ev_gd := by decide +kernel
theorem ev_in16 : ∀ w ∈ u_ws RX11 TX11 2, w ∈ ev_gd := by decide +kernel
theorem ev_in17 : ∀ w ∈ u_ws RX12 TX12 4, w ∈ ev_gd := by decide +kernel
theorem ev_in18 : ∀ w ∈ u_ws RX13 TX13 12, w ∈ ev_gd := by decide +kernel
def ev_ys : List (MethodName × List Cond) := [((⟨"java/lang/Math", "max", "(II)I"⟩ : MethodName), []),
  (yJx35411_checkForComodification_da8c8, Cond.code yJx35411_checkForComodification_da8c8 cJx35411_checkForComodification_da8c8 1 none :: ev_gd),
  (yJx35411_hasNext_aae02, Cond.code yJx35411_hasNext_aae02 cJx35411_hasNext_aae02 1 (some FieldType.boolean) :: ev_gd),
  (yJx35411_init_45d68, Cond.code yJx35411_init_45d68 cJx35411_init_45d68 2 none :: ev_gd),
  (yJx35411_next_0502b, Cond.code yJx35411_next_0502b cJx35411_next_0502b 3 (some (FieldType.object "java/lang/Object")) :: ev_gd),
  (yJx4a65c_add_72be8, Cond.code yJx4a65c_add_72be8 cJx4a65c_add_72be8 4 none :: ev_gd),
  (yJx4a65c_add_9ea2d, Cond.code yJx4a65c_add_9ea2d cJx4a65c_add_9ea2d 2 (some FieldType.boolean) :: ev_gd),
  (yJx4a65c_clear_da8c8, Cond.code yJx4a65c_clear_da8c8 cJx4a65c_clear_da8c8 4 none :: ev_gd),
  (yJx4a65c_grow_92f84, Cond.code yJx4a65c_grow_92f84 cJx4a65c_grow_92f84 4 (some (FieldType.array (FieldType.object "java/lang/Object"))) :: ev_gd),
  (yJx4a65c_grow_d5877, Cond.code yJx4a65c_grow_d5877 cJx4a65c_grow_d5877 1 (some (FieldType.array (FieldType.object "java/lang/Object"))) :: ev_gd),
  (yJx4a65c_init_da8c8, Cond.code yJx4a65c_init_da8c8 cJx4a65c_init_da8c8 1 none :: ev_gd),
  (yJx4a65c_iterator_32c93, Cond.code yJx4a65c_iterator_32c93 cJx4a65c_iterator_32c93 1 (some (FieldType.object "java/util/Iterator")) :: ev_gd),
  (yJx4a65c_size_8abf5, Cond.code yJx4a65c_size_8abf5 cJx4a65c_size_8abf5 1 (some FieldType.int) :: ev_gd),
  (yJxa1e45_init_da8c8, Cond.code yJxa1e45_init_da8c8 cJxa1e45_init_da8c8 1 none :: ev_gd),
  (yJxc12de_init_da8c8, Cond.code yJxc12de_init_da8c8 cJxc12de_init_da8c8 1 none :: ev_gd),
  (yL_commit, Cond.codeWith yL_commit cL_commit 3 (some FieldType.int) [((0), (9), (12), (21))] :: ev_gd),
  (yL_law, []),
  (yL_tell, Cond.codeWith yL_tell cL_tell 5 (some FieldType.int) [((0), (11), (14), (19)), ((0), (11), (18), (21))] :: ev_gd),
  (yL_unsay, Cond.codeWith yL_unsay cL_unsay 4 (some FieldType.int) [((0), (10), (13), (19)), ((0), (10), (16), (21))] :: ev_gd),
  (yX0_add, Cond.code yX0_add cX0_add 3 (some FieldType.int) :: ev_gd),
  (yX0_empty, Cond.code yX0_empty cX0_empty 2 (some FieldType.int) :: ev_gd),
  (yX0_init, Cond.code yX0_init cX0_init 1 none :: ev_gd),
  (yX10_at, Cond.code yX10_at cX10_at 3 (some FieldType.int) :: ev_gd),
  (yX10_broken, Cond.code yX10_broken cX10_broken 1 (some FieldType.int) :: ev_gd),
  (yX10_checkBatchRoom, Cond.code yX10_checkBatchRoom cX10_checkBatchRoom 1 none :: ev_gd),
  (yX10_checkTriple, Cond.code yX10_checkTriple cX10_checkTriple 1 none :: ev_gd),
  (yX10_commit, Cond.code yX10_commit cX10_commit 1 (some FieldType.int) :: ev_gd),
  (yX10_copy, Cond.code yX10_copy cX10_copy 4 none :: ev_gd),
  (yX10_fill, Cond.code yX10_fill cX10_fill 3 none :: ev_gd),
  (yX10_init, Cond.code yX10_init cX10_init 1 none :: ev_gd),
  (yX10_isIn, Cond.code yX10_isIn cX10_isIn 2 (some FieldType.boolean) :: ev_gd),
  (yX10_put, Cond.code yX10_put cX10_put 3 none :: ev_gd),
  (yX10_tell, Cond.code yX10_tell cX10_tell 3 (some FieldType.int) :: ev_gd),
  (yX10_toldChanged, Cond.code yX10_toldChanged cX10_toldChanged 1 none :: ev_gd),
  (yX10_tryBatch, Cond.code yX10_tryBatch cX10_tryBatch 1 none :: ev_gd),
  (yX10_unsay, Cond.code yX10_unsay cX10_unsay 2 (some FieldType.int) :: ev_gd),
  (yX11_init, Cond.code yX11_init cX11_init 1 none :: ev_gd),
  (yX12_holds, Cond.code yX12_holds cX12_holds 2 (some FieldType.boolean) :: ev_gd),
  (yX12_init, Cond.code yX12_init cX12_init 1 none :: ev_gd),
  (yX13_broken, Cond.code yX13_broken cX13_broken 10 (some FieldType.int) :: ev_gd),
  (yX13_broken_, Cond.code yX13_broken_ cX13_broken_ 1 (some FieldType.int) :: ev_gd),
  (yX13_commit, Cond.code yX13_commit cX13_commit 4 (some FieldType.int) :: ev_gd),
  (yX13_committed, Cond.code yX13_committed cX13_committed 8 (some (FieldType.object "java/util/ArrayList")) :: ev_gd),
  (yX13_digit, Cond.code yX13_digit cX13_digit 2 (some FieldType.int) :: ev_gd),
  (yX13_forget, Cond.code yX13_forget cX13_forget 1 none :: ev_gd),
  (yX13_init, Cond.code yX13_init cX13_init 1 none :: ev_gd),
  (yX13_is, Cond.code yX13_is cX13_is 3 (some FieldType.boolean) :: ev_gd),
  (yX13_isTriple, Cond.code yX13_isTriple cX13_isTriple 1 (some FieldType.boolean) :: ev_gd),
  (yX13_newBinding, Cond.code yX13_newBinding cX13_newBinding 0 (some (FieldType.array FieldType.int)) :: ev_gd),
  (yX13_place, Cond.code yX13_place cX13_place 6 (some FieldType.int) :: ev_gd),
  (yX13_place_, Cond.code yX13_place_ cX13_place_ 2 (some FieldType.int) :: ev_gd),
  (yX13_tell, Cond.code yX13_tell cX13_tell 3 (some FieldType.int) :: ev_gd),
  (yX13_thrown, Cond.code yX13_thrown cX13_thrown 1 (some FieldType.int) :: ev_gd),
  (yX13_told, Cond.code yX13_told cX13_told 7 (some (FieldType.array FieldType.boolean)) :: ev_gd),
  (yX13_unsay, Cond.code yX13_unsay cX13_unsay 2 (some FieldType.int) :: ev_gd),
  (yX1_init, Cond.code yX1_init cX1_init 1 none :: ev_gd),
  (yX2_init, Cond.code yX2_init cX2_init 1 none :: ev_gd),
  (yX3_init, Cond.code yX3_init cX3_init 1 none :: ev_gd),
  (yX4_headOf, Cond.code yX4_headOf cX4_headOf 2 (some FieldType.int) :: ev_gd),
  (yX4_headsOf, Cond.code yX4_headsOf cX4_headsOf 2 (some FieldType.int) :: ev_gd),
  (yX4_init, Cond.code yX4_init cX4_init 1 none :: ev_gd),
  (yX4_separate, Cond.code yX4_separate cX4_separate 2 none :: ev_gd),
  (yX5_init, Cond.code yX5_init cX5_init 1 none :: ev_gd),
  (yX6_init, Cond.code yX6_init cX6_init 1 none :: ev_gd),
  (yX7_begin, Cond.code yX7_begin cX7_begin 6 none :: ev_gd),
  (yX7_copyFrom, Cond.code yX7_copyFrom cX7_copyFrom 2 none :: ev_gd),
  (yX7_end, Cond.code yX7_end cX7_end 4 none :: ev_gd),
  (yX7_holdsIn, Cond.code yX7_holdsIn cX7_holdsIn 3 (some FieldType.boolean) :: ev_gd),
  (yX7_init, Cond.code yX7_init cX7_init 1 none :: ev_gd),
  (yX7_isOpen, Cond.code yX7_isOpen cX7_isOpen 2 (some FieldType.boolean) :: ev_gd),
  (yX7_openRowOf, Cond.code yX7_openRowOf cX7_openRowOf 3 (some FieldType.int) :: ev_gd),
  (yX7_take, Cond.code yX7_take cX7_take 7 none :: ev_gd),
  (yX8_init, Cond.code yX8_init cX8_init 1 none :: ev_gd),
  (yX9_brokenHeads, Cond.code yX9_brokenHeads cX9_brokenHeads 4 (some FieldType.int) :: ev_gd),
  (yX9_gather, Cond.code yX9_gather cX9_gather 6 none :: ev_gd),
  (yX9_init, Cond.code yX9_init cX9_init 1 none :: ev_gd),
  (yX9_isBrokenFor, Cond.code yX9_isBrokenFor cX9_isBrokenFor 5 (some FieldType.boolean) :: ev_gd)]
theorem ev_y1 : ev_ys[1]? = some (yJx35411_checkForComodification_da8c8, Cond.code yJx35411_checkForComodification_da8c8 cJx35411_checkForComodification_da8c8 1 none :: ev_gd) := rfl
theorem ev_y2 : ev_ys[2]? = some (yJx35411_hasNext_aae02, Cond.code yJx35411_hasNext_aae02 cJx35411_hasNext_aae02 1 (some FieldType.boolean) :: ev_gd) := rfl
theorem ev_y3 : ev_ys[3]? = some (yJx35411_init_45d68, Cond.code yJx35411_init_45d68 cJx35411_init_45d68 2 none :: ev_gd) := rfl
theorem ev_y4 : ev_ys[4]? = some (yJx35411_next_0502b, Cond.code yJx35411_next_0502b cJx35411_next_0502b 3 (some (FieldType.object "java/lang/Object")) :: ev_gd) := rfl
theorem ev_y5 : ev_ys[5]? = some (yJx4a65c_add_72be8, Cond.code yJx4a65c_add_72be8 cJx4a65c_add_72be8 4 none :: ev_gd) := rfl
theorem ev_y6 : ev_ys[6]? = some (yJx4a65c_add_9ea2d, Cond.code yJx4a65c_add_9ea2d cJx4a65c_add_9ea2d 2 (some FieldType.boolean) :: ev_gd) := rfl
theorem ev_y7 : ev_ys[7]? = some (yJx4a65c_clear_da8c8, Cond.code yJx4a65c_clear_da8c8 cJx4a65c_clear_da8c8 4 none :: ev_gd) := rfl
theorem ev_y8 : ev_ys[8]? = some (yJx4a65c_grow_92f84, Cond.code yJx4a65c_grow_92f84 cJx4a65c_grow_92f84 4 (some (FieldType.array (FieldType.object "java/lang/Object"))) :: ev_gd) := rfl
theorem ev_y9 : ev_ys[9]? = some (yJx4a65c_grow_d5877, Cond.code yJx4a65c_grow_d5877 cJx4a65c_grow_d5877 1 (some (FieldType.array (FieldType.object "java/lang/Object"))) :: ev_gd) := rfl
theorem ev_y10 : ev_ys[10]? = some (yJx4a65c_init_da8c8, Cond.code yJx4a65c_init_da8c8 cJx4a65c_init_da8c8 1 none :: ev_gd) := rfl
theorem ev_y11 : ev_ys[11]? = some (yJx4a65c_iterator_32c93, Cond.code yJx4a65c_iterator_32c93 cJx4a65c_iterator_32c93 1 (some (FieldType.object "java/util/Iterator")) :: ev_gd) := rfl
theorem ev_y12 : ev_ys[12]? = some (yJx4a65c_size_8abf5, Cond.code yJx4a65c_size_8abf5 cJx4a65c_size_8abf5 1 (some FieldType.int) :: ev_gd) := rfl
theorem ev_y13 : ev_ys[13]? = some (yJxa1e45_init_da8c8, Cond.code yJxa1e45_init_da8c8 cJxa1e45_init_da8c8 1 none :: ev_gd) := rfl
theorem ev_y14 : ev_ys[14]? = some (yJxc12de_init_da8c8, Cond.code yJxc12de_init_da8c8 cJxc12de_init_da8c8 1 none :: ev_gd) := rfl
theorem ev_y15 : ev_ys[15]? = some (yL_commit, Cond.codeWith yL_commit cL_commit 3 (some FieldType.int) [((0), (9), (12), (21))] :: ev_gd) := rfl
theorem ev_y17 : ev_ys[17]? = some (yL_tell, Cond.codeWith yL_tell cL_tell 5 (some FieldType.int) [((0), (11), (14), (19)), ((0), (11), (18), (21))] :: ev_gd) := rfl
theorem ev_y18 : ev_ys[18]? = some (yL_unsay, Cond.codeWith yL_unsay cL_unsay 4 (some FieldType.int) [((0), (10), (13), (19)), ((0), (10), (16), (21))] :: ev_gd) := rfl
theorem ev_y19 : ev_ys[19]? = some (yX0_add, Cond.code yX0_add cX0_add 3 (some FieldType.int) :: ev_gd) := rfl
theorem ev_y20 : ev_ys[20]? = some (yX0_empty, Cond.code yX0_empty cX0_empty 2 (some FieldType.int) :: ev_gd) := rfl
theorem ev_y21 : ev_ys[21]? = some (yX0_init, Cond.code yX0_init cX0_init 1 none :: ev_gd) := rfl
theorem ev_y22 : ev_ys[22]? = some (yX10_at, Cond.code yX10_at cX10_at 3 (some FieldType.int) :: ev_gd) := rfl
theorem ev_y23 : ev_ys[23]? = some (yX10_broken, Cond.code yX10_broken cX10_broken 1 (some FieldType.int) :: ev_gd) := rfl
theorem ev_y24 : ev_ys[24]? = some (yX10_checkBatchRoom, Cond.code yX10_checkBatchRoom cX10_checkBatchRoom 1 none :: ev_gd) := rfl
theorem ev_y25 : ev_ys[25]? = some (yX10_checkTriple, Cond.code yX10_checkTriple cX10_checkTriple 1 none :: ev_gd) := rfl
theorem ev_y26 : ev_ys[26]? = some (yX10_commit, Cond.code yX10_commit cX10_commit 1 (some FieldType.int) :: ev_gd) := rfl
theorem ev_y27 : ev_ys[27]? = some (yX10_copy, Cond.code yX10_copy cX10_copy 4 none :: ev_gd) := rfl
theorem ev_y28 : ev_ys[28]? = some (yX10_fill, Cond.code yX10_fill cX10_fill 3 none :: ev_gd) := rfl
theorem ev_y29 : ev_ys[29]? = some (yX10_init, Cond.code yX10_init cX10_init 1 none :: ev_gd) := rfl
theorem ev_y30 : ev_ys[30]? = some (yX10_isIn, Cond.code yX10_isIn cX10_isIn 2 (some FieldType.boolean) :: ev_gd) := rfl
theorem ev_y31 : ev_ys[31]? = some (yX10_put, Cond.code yX10_put cX10_put 3 none :: ev_gd) := rfl
theorem ev_y32 : ev_ys[32]? = some (yX10_tell, Cond.code yX10_tell cX10_tell 3 (some FieldType.int) :: ev_gd) := rfl
theorem ev_y33 : ev_ys[33]? = some (yX10_toldChanged, Cond.code yX10_toldChanged cX10_toldChanged 1 none :: ev_gd) := rfl
theorem ev_y34 : ev_ys[34]? = some (yX10_tryBatch, Cond.code yX10_tryBatch cX10_tryBatch 1 none :: ev_gd) := rfl
theorem ev_y35 : ev_ys[35]? = some (yX10_unsay, Cond.code yX10_unsay cX10_unsay 2 (some FieldType.int) :: ev_gd) := rfl
theorem ev_y36 : ev_ys[36]? = some (yX11_init, Cond.code yX11_init cX11_init 1 none :: ev_gd) := rfl
theorem ev_y37 : ev_ys[37]? = some (yX12_holds, Cond.code yX12_holds cX12_holds 2 (some FieldType.boolean) :: ev_gd) := rfl
theorem ev_y38 : ev_ys[38]? = some (yX12_init, Cond.code yX12_init cX12_init 1 none :: ev_gd) := rfl
theorem ev_y39 : ev_ys[39]? = some (yX13_broken, Cond.code yX13_broken cX13_broken 10 (some FieldType.int) :: ev_gd) := rfl
theorem ev_y40 : ev_ys[40]? = some (yX13_broken_, Cond.code yX13_broken_ cX13_broken_ 1 (some FieldType.int) :: ev_gd) := rfl
theorem ev_y41 : ev_ys[41]? = some (yX13_commit, Cond.code yX13_commit cX13_commit 4 (some FieldType.int) :: ev_gd) := rfl
theorem ev_y42 : ev_ys[42]? = some (yX13_committed, Cond.code yX13_committed cX13_committed 8 (some (FieldType.object "java/util/ArrayList")) :: ev_gd) := rfl
theorem ev_y43 : ev_ys[43]? = some (yX13_digit, Cond.code yX13_digit cX13_digit 2 (some FieldType.int) :: ev_gd) := rfl
theorem ev_y44 : ev_ys[44]? = some (yX13_forget, Cond.code yX13_forget cX13_forget 1 none :: ev_gd) := rfl
theorem ev_y45 : ev_ys[45]? = some (yX13_init, Cond.code yX13_init cX13_init 1 none :: ev_gd) := rfl
theorem ev_y46 : ev_ys[46]? = some (yX13_is, Cond.code yX13_is cX13_is 3 (some FieldType.boolean) :: ev_gd) := rfl
theorem ev_y47 : ev_ys[47]? = some (yX13_isTriple, Cond.code yX13_isTriple cX13_isTriple 1 (some FieldType.boolean) :: ev_gd) := rfl
theorem ev_y48 : ev_ys[48]? = some (yX13_newBinding, Cond.code yX13_newBinding cX13_newBinding 0 (some (FieldType.array FieldType.int)) :: ev_gd) := rfl
theorem ev_y49 : ev_ys[49]? = some (yX13_place, Cond.code yX13_place cX13_place 6 (some FieldType.int) :: ev_gd) := rfl
theorem ev_y50 : ev_ys[50]? = some (yX13_place_, Cond.code yX13_place_ cX13_place_ 2 (some FieldType.int) :: ev_gd) := rfl
theorem ev_y51 : ev_ys[51]? = some (yX13_tell, Cond.code yX13_tell cX13_tell 3 (some FieldType.int) :: ev_gd) := rfl
theorem ev_y52 : ev_ys[52]? = some (yX13_thrown, Cond.code yX13_thrown cX13_thrown 1 (some FieldType.int) :: ev_gd) := rfl
theorem ev_y53 : ev_ys[53]? = some (yX13_told, Cond.code yX13_told cX13_told 7 (some (FieldType.array FieldType.boolean)) :: ev_gd) := rfl
theorem ev_y54 : ev_ys[54]? = some (yX13_unsay, Cond.code yX13_unsay cX13_unsay 2 (some FieldType.int) :: ev_gd) := rfl
theorem ev_y55 : ev_ys[55]? = some (yX1_init, Cond.code yX1_init cX1_init 1 none :: ev_gd) := rfl
theorem ev_y56 : ev_ys[56]? = some (yX2_init, Cond.code yX2_init cX2_init 1 none :: ev_gd) := rfl
theorem ev_y57 : ev_ys[57]? = some (yX3_init, Cond.code yX3_init cX3_init 1 none :: ev_gd) := rfl
theorem ev_y58 : ev_ys[58]? = some (yX4_headOf, Cond.code yX4_headOf cX4_headOf 2 (some FieldType.int) :: ev_gd) := rfl
theorem ev_y59 : ev_ys[59]? = some (yX4_headsOf, Cond.code yX4_headsOf cX4_headsOf 2 (some FieldType.int) :: ev_gd) := rfl
theorem ev_y60 : ev_ys[60]? = some (yX4_init, Cond.code yX4_init cX4_init 1 none :: ev_gd) := rfl
theorem ev_y61 : ev_ys[61]? = some (yX4_separate, Cond.code yX4_separate cX4_separate 2 none :: ev_gd) := rfl
theorem ev_y62 : ev_ys[62]? = some (yX5_init, Cond.code yX5_init cX5_init 1 none :: ev_gd) := rfl
theorem ev_y63 : ev_ys[63]? = some (yX6_init, Cond.code yX6_init cX6_init 1 none :: ev_gd) := rfl
theorem ev_y64 : ev_ys[64]? = some (yX7_begin, Cond.code yX7_begin cX7_begin 6 none :: ev_gd) := rfl
theorem ev_y65 : ev_ys[65]? = some (yX7_copyFrom, Cond.code yX7_copyFrom cX7_copyFrom 2 none :: ev_gd) := rfl
theorem ev_y66 : ev_ys[66]? = some (yX7_end, Cond.code yX7_end cX7_end 4 none :: ev_gd) := rfl
theorem ev_y67 : ev_ys[67]? = some (yX7_holdsIn, Cond.code yX7_holdsIn cX7_holdsIn 3 (some FieldType.boolean) :: ev_gd) := rfl
theorem ev_y68 : ev_ys[68]? = some (yX7_init, Cond.code yX7_init cX7_init 1 none :: ev_gd) := rfl
theorem ev_y69 : ev_ys[69]? = some (yX7_isOpen, Cond.code yX7_isOpen cX7_isOpen 2 (some FieldType.boolean) :: ev_gd) := rfl
theorem ev_y70 : ev_ys[70]? = some (yX7_openRowOf, Cond.code yX7_openRowOf cX7_openRowOf 3 (some FieldType.int) :: ev_gd) := rfl
theorem ev_y71 : ev_ys[71]? = some (yX7_take, Cond.code yX7_take cX7_take 7 none :: ev_gd) := rfl
theorem ev_y72 : ev_ys[72]? = some (yX8_init, Cond.code yX8_init cX8_init 1 none :: ev_gd) := rfl
theorem ev_y73 : ev_ys[73]? = some (yX9_brokenHeads, Cond.code yX9_brokenHeads cX9_brokenHeads 4 (some FieldType.int) :: ev_gd) := rfl
theorem ev_y74 : ev_ys[74]? = some (yX9_gather, Cond.code yX9_gather cX9_gather 6 none :: ev_gd) := rfl
theorem ev_y75 : ev_ys[75]? = some (yX9_init, Cond.code yX9_init cX9_init 1 none :: ev_gd) := rfl
theorem ev_y76 : ev_ys[76]? = some (yX9_isBrokenFor, Cond.code yX9_isBrokenFor cX9_isBrokenFor 5 (some FieldType.boolean) :: ev_gd) := rfl
theorem ev_w1532 : (Jvm.Cond.fieldLink "java/util/ArrayList$Itr" (1 : Nat) "java/util/ArrayList$Itr" "this$0" "Ljava/util/ArrayList;") ∈ ev_gd := ev_mem 1532 (by decide +kernel) rfl
theorem ev_w1373 : (Jvm.Cond.fieldLink "java/util/ArrayList$Itr" (17 : Nat) "java/util/ArrayList" "modCount" "I") ∈ ev_gd := ev_mem 1373 (by decide +kernel) rfl
theorem ev_w1374 : (Jvm.Cond.sameField "java/util/ArrayList" "java/util/AbstractList" "modCount" "I") ∈ ev_gd := ev_mem 1374 (by decide +kernel) rfl
theorem ev_w1531 : (Jvm.Cond.fieldLink "java/util/ArrayList$Itr" (22 : Nat) "java/util/ArrayList$Itr" "expectedModCount" "I") ∈ ev_gd := ev_mem 1531 (by decide +kernel) rfl
theorem ev_w1529 : (Jvm.Cond.fieldLink "java/util/ArrayList$Itr" (25 : Nat) "java/util/ArrayList$Itr" "cursor" "I") ∈ ev_gd := ev_mem 1529 (by decide +kernel) rfl
theorem ev_w1370 : (Jvm.Cond.fieldLinkNest "java/util/ArrayList$Itr" (28 : Nat) "java/util/ArrayList" "size" "I" "java/util/ArrayList") ∈ ev_nw := ev_memN 1370 (by decide +kernel) rfl
theorem ev_w1528 : (Jvm.Cond.methodLink "java/util/ArrayList$Itr" (7 : Nat) ({ cls := "java/lang/Object", name := "<init>", desc := "()V" } : Jvm.MethodName)) ∈ ev_gd := ev_mem 1528 (by decide +kernel) rfl
theorem ev_w115 : (Jvm.Cond.instanceMethod ({ cls := "java/lang/Object", name := "<init>", desc := "()V" } : Jvm.MethodName)) ∈ ev_gd := ev_mem 115 (by decide +kernel) rfl
theorem ev_w116 : (Jvm.Cond.code ({ cls := "java/lang/Object", name := "<init>", desc := "()V" } : Jvm.MethodName) object_method_1_code (1 : Nat) (Option.none : Option Jvm.ClassFile.FieldType)) ∈ ev_gd := ev_mem 116 (by decide +kernel) rfl
theorem ev_w1530 : (Jvm.Cond.fieldLink "java/util/ArrayList$Itr" (13 : Nat) "java/util/ArrayList$Itr" "lastRet" "I") ∈ ev_gd := ev_mem 1530 (by decide +kernel) rfl
theorem ev_w1564 : (Jvm.Cond.code ({ cls := "java/util/ArrayList$Itr", name := "checkForComodification", desc := "()V" } : Jvm.MethodName) prog_43_method_6_code (1 : Nat) (Option.none : Option Jvm.ClassFile.FieldType)) ∈ ev_gd := ev_mem 1564 (by decide +kernel) rfl
theorem ev_w98 : (Jvm.Cond.initialized "java/util/ArrayList$Itr") ∈ ev_gd := ev_mem 98 (by decide +kernel) rfl
theorem ev_w1561 : (Jvm.Cond.methodLink "java/util/ArrayList$Itr" (31 : Nat) ({ cls := "java/util/ArrayList$Itr", name := "checkForComodification", desc := "()V" } : Jvm.MethodName)) ∈ ev_gd := ev_mem 1561 (by decide +kernel) rfl
theorem ev_w1562 : (Jvm.Cond.instanceMethod ({ cls := "java/util/ArrayList$Itr", name := "checkForComodification", desc := "()V" } : Jvm.MethodName)) ∈ ev_gd := ev_mem 1562 (by decide +kernel) rfl
theorem ev_w1563 : (Jvm.Cond.selects "java/util/ArrayList$Itr" ({ cls := "java/util/ArrayList$Itr", name := "checkForComodification", desc := "()V" } : Jvm.MethodName) ({ cls := "java/util/ArrayList$Itr", name := "checkForComodification", desc := "()V" } : Jvm.MethodName)) ∈ ev_gd := ev_mem 1563 (by decide +kernel) rfl
theorem ev_w1369 : (Jvm.Cond.fieldLink "java/util/ArrayList$Itr" (37 : Nat) "java/util/ArrayList" "elementData" "[Ljava/lang/Object;") ∈ ev_gd := ev_mem 1369 (by decide +kernel) rfl
theorem ev_w1456 : (Jvm.Cond.code ({ cls := "java/util/ArrayList", name := "grow", desc := "()[Ljava/lang/Object;" } : Jvm.MethodName) prog_42_method_7_code (1 : Nat) (Option.some (Jvm.ClassFile.FieldType.array (Jvm.ClassFile.FieldType.object "java/lang/Object")))) ∈ ev_gd := ev_mem 1456 (by decide +kernel) rfl
theorem ev_w85 : (Jvm.Cond.initialized "java/util/ArrayList") ∈ ev_gd := ev_mem 85 (by decide +kernel) rfl
theorem ev_w1453 : (Jvm.Cond.methodLink "java/util/ArrayList" (129 : Nat) ({ cls := "java/util/ArrayList", name := "grow", desc := "()[Ljava/lang/Object;" } : Jvm.MethodName)) ∈ ev_gd := ev_mem 1453 (by decide +kernel) rfl
theorem ev_w1455 : (Jvm.Cond.instanceMethod ({ cls := "java/util/ArrayList", name := "grow", desc := "()[Ljava/lang/Object;" } : Jvm.MethodName)) ∈ ev_gd := ev_mem 1455 (by decide +kernel) rfl
theorem ev_w39 : (Cond.selects "java/util/ArrayList" ⟨"java/util/ArrayList", "grow", "()[Ljava/lang/Object;"⟩ ⟨"java/util/ArrayList", "grow", "()[Ljava/lang/Object;"⟩) ∈ ev_gd := ev_mem 39 (by decide +kernel) rfl
theorem ev_w1922 : (Jvm.Cond.castable "FactloomModel$Row" "java/lang/Object") ∈ ev_nw := ev_memN 1922 (by decide +kernel) rfl
theorem ev_w1930 : (Jvm.Cond.castable "[I" "java/lang/Object") ∈ ev_nw := ev_memN 1930 (by decide +kernel) rfl
theorem ev_w1371 : (Jvm.Cond.fieldLink "java/util/ArrayList" (48 : Nat) "java/util/ArrayList" "size" "I") ∈ ev_gd := ev_mem 1371 (by decide +kernel) rfl
theorem ev_w1375 : (Jvm.Cond.fieldLink "java/util/ArrayList" (63 : Nat) "java/util/ArrayList" "modCount" "I") ∈ ev_gd := ev_mem 1375 (by decide +kernel) rfl
theorem ev_w1368 : (Jvm.Cond.fieldLink "java/util/ArrayList" (9 : Nat) "java/util/ArrayList" "elementData" "[Ljava/lang/Object;") ∈ ev_gd := ev_mem 1368 (by decide +kernel) rfl
theorem ev_w1452 : (Jvm.Cond.code ({ cls := "java/util/ArrayList", name := "add", desc := "(Ljava/lang/Object;[Ljava/lang/Object;I)V" } : Jvm.MethodName) prog_42_method_24_code (4 : Nat) (Option.none : Option Jvm.ClassFile.FieldType)) ∈ ev_gd := ev_mem 1452 (by decide +kernel) rfl
theorem ev_w1449 : (Jvm.Cond.methodLink "java/util/ArrayList" (131 : Nat) ({ cls := "java/util/ArrayList", name := "add", desc := "(Ljava/lang/Object;[Ljava/lang/Object;I)V" } : Jvm.MethodName)) ∈ ev_gd := ev_mem 1449 (by decide +kernel) rfl
theorem ev_w1451 : (Jvm.Cond.instanceMethod ({ cls := "java/util/ArrayList", name := "add", desc := "(Ljava/lang/Object;[Ljava/lang/Object;I)V" } : Jvm.MethodName)) ∈ ev_gd := ev_mem 1451 (by decide +kernel) rfl
theorem ev_w38 : (Cond.selects "java/util/ArrayList" ⟨"java/util/ArrayList", "add", "(Ljava/lang/Object;[Ljava/lang/Object;I)V"⟩ ⟨"java/util/ArrayList", "add", "(Ljava/lang/Object;[Ljava/lang/Object;I)V"⟩) ∈ ev_gd := ev_mem 38 (by decide +kernel) rfl
theorem ev_w1366 : (Jvm.Cond.fieldLink "java/util/ArrayList" (39 : Nat) "java/util/ArrayList" "DEFAULTCAPACITY_EMPTY_ELEMENTDATA" "[Ljava/lang/Object;") ∈ ev_gd := ev_mem 1366 (by decide +kernel) rfl
theorem ev_w1497 : (Jvm.Cond.methodLink "java/util/ArrayList" (79 : Nat) ({ cls := "java/lang/Math", name := "max", desc := "(II)I" } : Jvm.MethodName)) ∈ ev_gd := ev_mem 1497 (by decide +kernel) rfl
theorem ev_w682 : (Jvm.Cond.static ({ cls := "java/lang/Math", name := "max", desc := "(II)I" } : Jvm.MethodName)) ∈ ev_gd := ev_mem 682 (by decide +kernel) rfl
theorem ev_w93 : (Jvm.Cond.initialized "java/lang/Math") ∈ ev_gd := ev_mem 93 (by decide +kernel) rfl
theorem ev_w683 : (Jvm.Cond.code ({ cls := "java/lang/Math", name := "max", desc := "(II)I" } : Jvm.MethodName) prog_29_method_65_code (2 : Nat) (Option.some Jvm.ClassFile.FieldType.int)) ∈ ev_gd := ev_mem 683 (by decide +kernel) rfl
theorem ev_w1498 : (Jvm.Cond.classLink "java/util/ArrayList" (7 : Nat) "java/lang/Object") ∈ ev_gd := ev_mem 1498 (by decide +kernel) rfl
theorem ev_w1460 : (Jvm.Cond.code ({ cls := "java/util/ArrayList", name := "grow", desc := "(I)[Ljava/lang/Object;" } : Jvm.MethodName) prog_42_method_6_code (4 : Nat) (Option.some (Jvm.ClassFile.FieldType.array (Jvm.ClassFile.FieldType.object "java/lang/Object")))) ∈ ev_gd := ev_mem 1460 (by decide +kernel) rfl
theorem ev_w1457 : (Jvm.Cond.methodLink "java/util/ArrayList" (69 : Nat) ({ cls := "java/util/ArrayList", name := "grow", desc := "(I)[Ljava/lang/Object;" } : Jvm.MethodName)) ∈ ev_gd := ev_mem 1457 (by decide +kernel) rfl
theorem ev_w1459 : (Jvm.Cond.instanceMethod ({ cls := "java/util/ArrayList", name := "grow", desc := "(I)[Ljava/lang/Object;" } : Jvm.MethodName)) ∈ ev_gd := ev_mem 1459 (by decide +kernel) rfl
theorem ev_w40 : (Cond.selects "java/util/ArrayList" ⟨"java/util/ArrayList", "grow", "(I)[Ljava/lang/Object;"⟩ ⟨"java/util/ArrayList", "grow", "(I)[Ljava/lang/Object;"⟩) ∈ ev_gd := ev_mem 40 (by decide +kernel) rfl
theorem ev_w1361 : (Jvm.Cond.code ({ cls := "java/util/AbstractList", name := "<init>", desc := "()V" } : Jvm.MethodName) prog_41_method_1_code (1 : Nat) (Option.none : Option Jvm.ClassFile.FieldType)) ∈ ev_gd := ev_mem 1361 (by decide +kernel) rfl
theorem ev_w84 : (Jvm.Cond.initialized "java/util/AbstractList") ∈ ev_gd := ev_mem 84 (by decide +kernel) rfl
theorem ev_w1359 : (Jvm.Cond.methodLink "java/util/ArrayList" (1 : Nat) ({ cls := "java/util/AbstractList", name := "<init>", desc := "()V" } : Jvm.MethodName)) ∈ ev_gd := ev_mem 1359 (by decide +kernel) rfl
theorem ev_w1360 : (Jvm.Cond.instanceMethod ({ cls := "java/util/AbstractList", name := "<init>", desc := "()V" } : Jvm.MethodName)) ∈ ev_gd := ev_mem 1360 (by decide +kernel) rfl
theorem ev_w1523 : (Jvm.Cond.classLink "java/util/ArrayList" (267 : Nat) "java/util/ArrayList$Itr") ∈ ev_gd := ev_mem 1523 (by decide +kernel) rfl
theorem ev_w1524 : (Jvm.Cond.instantiable "java/util/ArrayList$Itr" (4 : Nat)) ∈ ev_gd := ev_mem 1524 (by decide +kernel) rfl
theorem ev_w1527 : (Jvm.Cond.code ({ cls := "java/util/ArrayList$Itr", name := "<init>", desc := "(Ljava/util/ArrayList;)V" } : Jvm.MethodName) prog_43_method_1_code (2 : Nat) (Option.none : Option Jvm.ClassFile.FieldType)) ∈ ev_gd := ev_mem 1527 (by decide +kernel) rfl
theorem ev_w1525 : (Jvm.Cond.methodLink "java/util/ArrayList" (269 : Nat) ({ cls := "java/util/ArrayList$Itr", name := "<init>", desc := "(Ljava/util/ArrayList;)V" } : Jvm.MethodName)) ∈ ev_gd := ev_mem 1525 (by decide +kernel) rfl
theorem ev_w1526 : (Jvm.Cond.instanceMethod ({ cls := "java/util/ArrayList$Itr", name := "<init>", desc := "(Ljava/util/ArrayList;)V" } : Jvm.MethodName)) ∈ ev_gd := ev_mem 1526 (by decide +kernel) rfl
theorem ev_w1365 : (Jvm.Cond.methodLink "java/util/AbstractCollection" (1 : Nat) ({ cls := "java/lang/Object", name := "<init>", desc := "()V" } : Jvm.MethodName)) ∈ ev_gd := ev_mem 1365 (by decide +kernel) rfl
theorem ev_w1364 : (Jvm.Cond.code ({ cls := "java/util/AbstractCollection", name := "<init>", desc := "()V" } : Jvm.MethodName) prog_40_method_1_code (1 : Nat) (Option.none : Option Jvm.ClassFile.FieldType)) ∈ ev_gd := ev_mem 1364 (by decide +kernel) rfl
theorem ev_w83 : (Jvm.Cond.initialized "java/util/AbstractCollection") ∈ ev_gd := ev_mem 83 (by decide +kernel) rfl
theorem ev_w1362 : (Jvm.Cond.methodLink "java/util/AbstractList" (1 : Nat) ({ cls := "java/util/AbstractCollection", name := "<init>", desc := "()V" } : Jvm.MethodName)) ∈ ev_gd := ev_mem 1362 (by decide +kernel) rfl
theorem ev_w1363 : (Jvm.Cond.instanceMethod ({ cls := "java/util/AbstractCollection", name := "<init>", desc := "()V" } : Jvm.MethodName)) ∈ ev_gd := ev_mem 1363 (by decide +kernel) rfl
theorem ev_w1372 : (Jvm.Cond.fieldLink "java/util/AbstractList" (7 : Nat) "java/util/AbstractList" "modCount" "I") ∈ ev_gd := ev_mem 1372 (by decide +kernel) rfl
theorem ev_w897 : (Jvm.Cond.code ({ cls := "Factloom", name := "commit", desc := "()I" } : Jvm.MethodName) prog_1_method_5_code (1 : Nat) (Option.some Jvm.ClassFile.FieldType.int)) ∈ ev_gd := ev_mem 897 (by decide +kernel) rfl
theorem ev_w71 : (Jvm.Cond.initialized "Factloom") ∈ ev_gd := ev_mem 71 (by decide +kernel) rfl
theorem ev_w894 : (Jvm.Cond.methodLink "FactloomLaw" (27 : Nat) ({ cls := "Factloom", name := "commit", desc := "()I" } : Jvm.MethodName)) ∈ ev_gd := ev_mem 894 (by decide +kernel) rfl
theorem ev_w895 : (Jvm.Cond.instanceMethod ({ cls := "Factloom", name := "commit", desc := "()I" } : Jvm.MethodName)) ∈ ev_gd := ev_mem 895 (by decide +kernel) rfl
theorem ev_w896 : (Jvm.Cond.selects "Factloom" ({ cls := "Factloom", name := "commit", desc := "()I" } : Jvm.MethodName) ({ cls := "Factloom", name := "commit", desc := "()I" } : Jvm.MethodName)) ∈ ev_gd := ev_mem 896 (by decide +kernel) rfl
theorem ev_w771 : (Jvm.Cond.fieldLinkNest "FactloomLaw" (13 : Nat) "FactloomLaw$Out" "n" "J" "FactloomLaw") ∈ ev_nw := ev_memN 771 (by decide +kernel) rfl
theorem ev_w109 : (Jvm.Cond.classLink "FactloomLaw" (8 : Nat) "Factloom") ∈ ev_gd := ev_mem 109 (by decide +kernel) rfl
theorem ev_w110 : (Jvm.Cond.instantiable "Factloom" (16 : Nat)) ∈ ev_gd := ev_mem 110 (by decide +kernel) rfl
theorem ev_w113 : (Jvm.Cond.code ({ cls := "Factloom", name := "<init>", desc := "()V" } : Jvm.MethodName) prog_1_method_1_code (1 : Nat) (Option.none : Option Jvm.ClassFile.FieldType)) ∈ ev_gd := ev_mem 113 (by decide +kernel) rfl
theorem ev_w111 : (Jvm.Cond.methodLink "FactloomLaw" (86 : Nat) ({ cls := "Factloom", name := "<init>", desc := "()V" } : Jvm.MethodName)) ∈ ev_gd := ev_mem 111 (by decide +kernel) rfl
theorem ev_w112 : (Jvm.Cond.instanceMethod ({ cls := "Factloom", name := "<init>", desc := "()V" } : Jvm.MethodName)) ∈ ev_gd := ev_mem 112 (by decide +kernel) rfl
theorem ev_w1348 : (Jvm.Cond.classLink "FactloomLaw" (87 : Nat) "FactloomModel") ∈ ev_gd := ev_mem 1348 (by decide +kernel) rfl
theorem ev_w1349 : (Jvm.Cond.instantiable "FactloomModel" (12 : Nat)) ∈ ev_gd := ev_mem 1349 (by decide +kernel) rfl
theorem ev_w82 : (Jvm.Cond.initialized "FactloomModel") ∈ ev_gd := ev_mem 82 (by decide +kernel) rfl
theorem ev_w1352 : (Jvm.Cond.code ({ cls := "FactloomModel", name := "<init>", desc := "()V" } : Jvm.MethodName) prog_14_method_1_code (1 : Nat) (Option.none : Option Jvm.ClassFile.FieldType)) ∈ ev_gd := ev_mem 1352 (by decide +kernel) rfl
theorem ev_w1350 : (Jvm.Cond.methodLink "FactloomLaw" (89 : Nat) ({ cls := "FactloomModel", name := "<init>", desc := "()V" } : Jvm.MethodName)) ∈ ev_gd := ev_mem 1350 (by decide +kernel) rfl
theorem ev_w1351 : (Jvm.Cond.instanceMethod ({ cls := "FactloomModel", name := "<init>", desc := "()V" } : Jvm.MethodName)) ∈ ev_gd := ev_mem 1351 (by decide +kernel) rfl
theorem ev_w765 : (Jvm.Cond.classLink "FactloomLaw" (14 : Nat) "FactloomLaw$Out") ∈ ev_gd := ev_mem 765 (by decide +kernel) rfl
theorem ev_w766 : (Jvm.Cond.instantiable "FactloomLaw$Out" (2 : Nat)) ∈ ev_gd := ev_mem 766 (by decide +kernel) rfl
theorem ev_w86 : (Jvm.Cond.initialized "FactloomLaw$Out") ∈ ev_gd := ev_mem 86 (by decide +kernel) rfl
theorem ev_w769 : (Jvm.Cond.code ({ cls := "FactloomLaw$Out", name := "<init>", desc := "()V" } : Jvm.MethodName) prog_13_method_1_code (1 : Nat) (Option.none : Option Jvm.ClassFile.FieldType)) ∈ ev_gd := ev_mem 769 (by decide +kernel) rfl
theorem ev_w767 : (Jvm.Cond.methodLinkNest "FactloomLaw" (90 : Nat) ({ cls := "FactloomLaw$Out", name := "<init>", desc := "()V" } : Jvm.MethodName) "FactloomLaw") ∈ ev_nw := ev_memN 767 (by decide +kernel) rfl
theorem ev_w768 : (Jvm.Cond.instanceMethod ({ cls := "FactloomLaw$Out", name := "<init>", desc := "()V" } : Jvm.MethodName)) ∈ ev_gd := ev_mem 768 (by decide +kernel) rfl
theorem ev_w780 : (Jvm.Cond.codeWith ({ cls := "FactloomLaw", name := "tell", desc := "(LFactloom;IILFactloomLaw$Out;)I" } : Jvm.MethodName) method_2_code (5 : Nat) (Option.some Jvm.ClassFile.FieldType.int) [((0 : Nat), (11 : Nat), (14 : Nat), (19 : Nat)), ((0 : Nat), (11 : Nat), (18 : Nat), (21 : Nat))]) ∈ ev_gd := ev_mem 780 (by decide +kernel) rfl
theorem ev_w70 : (Jvm.Cond.initialized "FactloomLaw") ∈ ev_gd := ev_mem 70 (by decide +kernel) rfl
theorem ev_w778 : (Jvm.Cond.methodLink "FactloomLaw" (91 : Nat) ({ cls := "FactloomLaw", name := "tell", desc := "(LFactloom;IILFactloomLaw$Out;)I" } : Jvm.MethodName)) ∈ ev_gd := ev_mem 778 (by decide +kernel) rfl
theorem ev_w779 : (Jvm.Cond.static ({ cls := "FactloomLaw", name := "tell", desc := "(LFactloom;IILFactloomLaw$Out;)I" } : Jvm.MethodName)) ∈ ev_gd := ev_mem 779 (by decide +kernel) rfl
theorem ev_w1427 : (Jvm.Cond.code ({ cls := "FactloomModel", name := "tell", desc := "(II)I" } : Jvm.MethodName) prog_14_method_18_code (3 : Nat) (Option.some Jvm.ClassFile.FieldType.int)) ∈ ev_gd := ev_mem 1427 (by decide +kernel) rfl
theorem ev_w1424 : (Jvm.Cond.methodLink "FactloomLaw" (96 : Nat) ({ cls := "FactloomModel", name := "tell", desc := "(II)I" } : Jvm.MethodName)) ∈ ev_gd := ev_mem 1424 (by decide +kernel) rfl
theorem ev_w1425 : (Jvm.Cond.instanceMethod ({ cls := "FactloomModel", name := "tell", desc := "(II)I" } : Jvm.MethodName)) ∈ ev_gd := ev_mem 1425 (by decide +kernel) rfl
theorem ev_w1426 : (Jvm.Cond.selects "FactloomModel" ({ cls := "FactloomModel", name := "tell", desc := "(II)I" } : Jvm.MethodName) ({ cls := "FactloomModel", name := "tell", desc := "(II)I" } : Jvm.MethodName)) ∈ ev_gd := ev_mem 1426 (by decide +kernel) rfl
theorem ev_w1423 : (Jvm.Cond.code ({ cls := "FactloomModel", name := "thrown", desc := "()I" } : Jvm.MethodName) prog_14_method_2_code (1 : Nat) (Option.some Jvm.ClassFile.FieldType.int)) ∈ ev_gd := ev_mem 1423 (by decide +kernel) rfl
theorem ev_w1420 : (Jvm.Cond.methodLink "FactloomLaw" (97 : Nat) ({ cls := "FactloomModel", name := "thrown", desc := "()I" } : Jvm.MethodName)) ∈ ev_gd := ev_mem 1420 (by decide +kernel) rfl
theorem ev_w1421 : (Jvm.Cond.instanceMethod ({ cls := "FactloomModel", name := "thrown", desc := "()I" } : Jvm.MethodName)) ∈ ev_gd := ev_mem 1421 (by decide +kernel) rfl
theorem ev_w1422 : (Jvm.Cond.selects "FactloomModel" ({ cls := "FactloomModel", name := "thrown", desc := "()I" } : Jvm.MethodName) ({ cls := "FactloomModel", name := "thrown", desc := "()I" } : Jvm.MethodName)) ∈ ev_gd := ev_mem 1422 (by decide +kernel) rfl
theorem ev_w886 : (Jvm.Cond.codeWith ({ cls := "FactloomLaw", name := "unsay", desc := "(LFactloom;ILFactloomLaw$Out;)I" } : Jvm.MethodName) method_3_code (4 : Nat) (Option.some Jvm.ClassFile.FieldType.int) [((0 : Nat), (10 : Nat), (13 : Nat), (19 : Nat)), ((0 : Nat), (10 : Nat), (16 : Nat), (21 : Nat))]) ∈ ev_gd := ev_mem 886 (by decide +kernel) rfl
theorem ev_w884 : (Jvm.Cond.methodLink "FactloomLaw" (100 : Nat) ({ cls := "FactloomLaw", name := "unsay", desc := "(LFactloom;ILFactloomLaw$Out;)I" } : Jvm.MethodName)) ∈ ev_gd := ev_mem 884 (by decide +kernel) rfl
theorem ev_w885 : (Jvm.Cond.static ({ cls := "FactloomLaw", name := "unsay", desc := "(LFactloom;ILFactloomLaw$Out;)I" } : Jvm.MethodName)) ∈ ev_gd := ev_mem 885 (by decide +kernel) rfl
theorem ev_w1502 : (Jvm.Cond.code ({ cls := "FactloomModel", name := "unsay", desc := "(I)I" } : Jvm.MethodName) prog_14_method_19_code (2 : Nat) (Option.some Jvm.ClassFile.FieldType.int)) ∈ ev_gd := ev_mem 1502 (by decide +kernel) rfl
theorem ev_w1499 : (Jvm.Cond.methodLink "FactloomLaw" (103 : Nat) ({ cls := "FactloomModel", name := "unsay", desc := "(I)I" } : Jvm.MethodName)) ∈ ev_gd := ev_mem 1499 (by decide +kernel) rfl
theorem ev_w1500 : (Jvm.Cond.instanceMethod ({ cls := "FactloomModel", name := "unsay", desc := "(I)I" } : Jvm.MethodName)) ∈ ev_gd := ev_mem 1500 (by decide +kernel) rfl
theorem ev_w1501 : (Jvm.Cond.selects "FactloomModel" ({ cls := "FactloomModel", name := "unsay", desc := "(I)I" } : Jvm.MethodName) ({ cls := "FactloomModel", name := "unsay", desc := "(I)I" } : Jvm.MethodName)) ∈ ev_gd := ev_mem 1501 (by decide +kernel) rfl
theorem ev_w893 : (Jvm.Cond.codeWith ({ cls := "FactloomLaw", name := "commit", desc := "(LFactloom;LFactloomLaw$Out;)I" } : Jvm.MethodName) method_4_code (3 : Nat) (Option.some Jvm.ClassFile.FieldType.int) [((0 : Nat), (9 : Nat), (12 : Nat), (21 : Nat))]) ∈ ev_gd := ev_mem 893 (by decide +kernel) rfl
theorem ev_w891 : (Jvm.Cond.methodLink "FactloomLaw" (108 : Nat) ({ cls := "FactloomLaw", name := "commit", desc := "(LFactloom;LFactloomLaw$Out;)I" } : Jvm.MethodName)) ∈ ev_gd := ev_mem 891 (by decide +kernel) rfl
theorem ev_w892 : (Jvm.Cond.static ({ cls := "FactloomLaw", name := "commit", desc := "(LFactloom;LFactloomLaw$Out;)I" } : Jvm.MethodName)) ∈ ev_gd := ev_mem 892 (by decide +kernel) rfl
theorem ev_w1514 : (Jvm.Cond.code ({ cls := "FactloomModel", name := "commit", desc := "()I" } : Jvm.MethodName) prog_14_method_22_code (4 : Nat) (Option.some Jvm.ClassFile.FieldType.int)) ∈ ev_gd := ev_mem 1514 (by decide +kernel) rfl
theorem ev_w1511 : (Jvm.Cond.methodLink "FactloomLaw" (111 : Nat) ({ cls := "FactloomModel", name := "commit", desc := "()I" } : Jvm.MethodName)) ∈ ev_gd := ev_mem 1511 (by decide +kernel) rfl
theorem ev_w1512 : (Jvm.Cond.instanceMethod ({ cls := "FactloomModel", name := "commit", desc := "()I" } : Jvm.MethodName)) ∈ ev_gd := ev_mem 1512 (by decide +kernel) rfl
theorem ev_w1513 : (Jvm.Cond.selects "FactloomModel" ({ cls := "FactloomModel", name := "commit", desc := "()I" } : Jvm.MethodName) ({ cls := "FactloomModel", name := "commit", desc := "()I" } : Jvm.MethodName)) ∈ ev_gd := ev_mem 1513 (by decide +kernel) rfl
theorem ev_w655 : (Jvm.Cond.code ({ cls := "Factloom", name := "broken", desc := "()I" } : Jvm.MethodName) prog_1_method_24_code (1 : Nat) (Option.some Jvm.ClassFile.FieldType.int)) ∈ ev_gd := ev_mem 655 (by decide +kernel) rfl
theorem ev_w652 : (Jvm.Cond.methodLink "FactloomLaw" (173 : Nat) ({ cls := "Factloom", name := "broken", desc := "()I" } : Jvm.MethodName)) ∈ ev_gd := ev_mem 652 (by decide +kernel) rfl
theorem ev_w653 : (Jvm.Cond.instanceMethod ({ cls := "Factloom", name := "broken", desc := "()I" } : Jvm.MethodName)) ∈ ev_gd := ev_mem 653 (by decide +kernel) rfl
theorem ev_w654 : (Jvm.Cond.selects "Factloom" ({ cls := "Factloom", name := "broken", desc := "()I" } : Jvm.MethodName) ({ cls := "Factloom", name := "broken", desc := "()I" } : Jvm.MethodName)) ∈ ev_gd := ev_mem 654 (by decide +kernel) rfl
theorem ev_w1867 : (Jvm.Cond.code ({ cls := "FactloomModel", name := "broken", desc := "()I" } : Jvm.MethodName) prog_14_method_65_code (1 : Nat) (Option.some Jvm.ClassFile.FieldType.int)) ∈ ev_gd := ev_mem 1867 (by decide +kernel) rfl
theorem ev_w1864 : (Jvm.Cond.methodLink "FactloomLaw" (176 : Nat) ({ cls := "FactloomModel", name := "broken", desc := "()I" } : Jvm.MethodName)) ∈ ev_gd := ev_mem 1864 (by decide +kernel) rfl
theorem ev_w1865 : (Jvm.Cond.instanceMethod ({ cls := "FactloomModel", name := "broken", desc := "()I" } : Jvm.MethodName)) ∈ ev_gd := ev_mem 1865 (by decide +kernel) rfl
theorem ev_w1866 : (Jvm.Cond.selects "FactloomModel" ({ cls := "FactloomModel", name := "broken", desc := "()I" } : Jvm.MethodName) ({ cls := "FactloomModel", name := "broken", desc := "()I" } : Jvm.MethodName)) ∈ ev_gd := ev_mem 1866 (by decide +kernel) rfl
theorem ev_w786 : (Jvm.Cond.code ({ cls := "Factloom", name := "tell", desc := "(II)I" } : Jvm.MethodName) prog_1_method_2_code (3 : Nat) (Option.some Jvm.ClassFile.FieldType.int)) ∈ ev_gd := ev_mem 786 (by decide +kernel) rfl
theorem ev_w783 : (Jvm.Cond.methodLink "FactloomLaw" (7 : Nat) ({ cls := "Factloom", name := "tell", desc := "(II)I" } : Jvm.MethodName)) ∈ ev_gd := ev_mem 783 (by decide +kernel) rfl
theorem ev_w784 : (Jvm.Cond.instanceMethod ({ cls := "Factloom", name := "tell", desc := "(II)I" } : Jvm.MethodName)) ∈ ev_gd := ev_mem 784 (by decide +kernel) rfl
theorem ev_w785 : (Jvm.Cond.selects "Factloom" ({ cls := "Factloom", name := "tell", desc := "(II)I" } : Jvm.MethodName) ({ cls := "Factloom", name := "tell", desc := "(II)I" } : Jvm.MethodName)) ∈ ev_gd := ev_mem 785 (by decide +kernel) rfl
theorem ev_w890 : (Jvm.Cond.code ({ cls := "Factloom", name := "unsay", desc := "(I)I" } : Jvm.MethodName) prog_1_method_3_code (2 : Nat) (Option.some Jvm.ClassFile.FieldType.int)) ∈ ev_gd := ev_mem 890 (by decide +kernel) rfl
theorem ev_w887 : (Jvm.Cond.methodLink "FactloomLaw" (23 : Nat) ({ cls := "Factloom", name := "unsay", desc := "(I)I" } : Jvm.MethodName)) ∈ ev_gd := ev_mem 887 (by decide +kernel) rfl
theorem ev_w888 : (Jvm.Cond.instanceMethod ({ cls := "Factloom", name := "unsay", desc := "(I)I" } : Jvm.MethodName)) ∈ ev_gd := ev_mem 888 (by decide +kernel) rfl
theorem ev_w889 : (Jvm.Cond.selects "Factloom" ({ cls := "Factloom", name := "unsay", desc := "(I)I" } : Jvm.MethodName) ({ cls := "Factloom", name := "unsay", desc := "(I)I" } : Jvm.MethodName)) ∈ ev_gd := ev_mem 889 (by decide +kernel) rfl
theorem ev_w143 : (Jvm.Cond.fieldLink "Factloom$Batch" (9 : Nat) "Factloom$Batch" "triples" "[I") ∈ ev_gd := ev_mem 143 (by decide +kernel) rfl
theorem ev_w147 : (Jvm.Cond.fieldLink "Factloom$Batch" (18 : Nat) "Factloom$Batch" "count" "I") ∈ ev_gd := ev_mem 147 (by decide +kernel) rfl
theorem ev_w440 : (Jvm.Cond.code ({ cls := "Factloom", name := "put", desc := "([III)V" } : Jvm.MethodName) prog_1_method_52_code (3 : Nat) (Option.none : Option Jvm.ClassFile.FieldType)) ∈ ev_gd := ev_mem 440 (by decide +kernel) rfl
theorem ev_w883 : (Jvm.Cond.methodLinkNest "Factloom$Batch" (22 : Nat) ({ cls := "Factloom", name := "put", desc := "([III)V" } : Jvm.MethodName) "Factloom") ∈ ev_nw := ev_memN 883 (by decide +kernel) rfl
theorem ev_w439 : (Jvm.Cond.static ({ cls := "Factloom", name := "put", desc := "([III)V" } : Jvm.MethodName)) ∈ ev_gd := ev_mem 439 (by decide +kernel) rfl
theorem ev_w145 : (Jvm.Cond.fieldLink "Factloom$Batch" (15 : Nat) "Factloom$Batch" "trusts" "[I") ∈ ev_gd := ev_mem 145 (by decide +kernel) rfl
theorem ev_w142 : (Jvm.Cond.methodLink "Factloom$Batch" (3 : Nat) ({ cls := "java/lang/Object", name := "<init>", desc := "()V" } : Jvm.MethodName)) ∈ ev_gd := ev_mem 142 (by decide +kernel) rfl
theorem ev_w136 : (Jvm.Cond.arrayClass Jvm.ClassFile.FieldType.int) ∈ ev_gd := ev_mem 136 (by decide +kernel) rfl
theorem ev_w659 : (Jvm.Cond.code ({ cls := "Factloom", name := "tryBatch", desc := "()V" } : Jvm.MethodName) prog_1_method_35_code (1 : Nat) (Option.none : Option Jvm.ClassFile.FieldType)) ∈ ev_gd := ev_mem 659 (by decide +kernel) rfl
theorem ev_w656 : (Jvm.Cond.methodLink "Factloom" (112 : Nat) ({ cls := "Factloom", name := "tryBatch", desc := "()V" } : Jvm.MethodName)) ∈ ev_gd := ev_mem 656 (by decide +kernel) rfl
theorem ev_w658 : (Jvm.Cond.instanceMethod ({ cls := "Factloom", name := "tryBatch", desc := "()V" } : Jvm.MethodName)) ∈ ev_gd := ev_mem 658 (by decide +kernel) rfl
theorem ev_w19 : (Cond.selects "Factloom" ⟨"Factloom", "tryBatch", "()V"⟩ ⟨"Factloom", "tryBatch", "()V"⟩) ∈ ev_gd := ev_mem 19 (by decide +kernel) rfl
theorem ev_w353 : (Jvm.Cond.fieldLink "Factloom" (40 : Nat) "Factloom" "toldElse" "LFactloom$ToldTable;") ∈ ev_gd := ev_mem 353 (by decide +kernel) rfl
theorem ev_w348 : (Jvm.Cond.fieldLink "Factloom" (10 : Nat) "Factloom" "names" "LFactloom$Names;") ∈ ev_gd := ev_mem 348 (by decide +kernel) rfl
theorem ev_w687 : (Jvm.Cond.code ({ cls := "Factloom$ToldTable", name := "brokenHeads", desc := "(LFactloom$Names;)I" } : Jvm.MethodName) prog_11_method_5_code (4 : Nat) (Option.some Jvm.ClassFile.FieldType.int)) ∈ ev_gd := ev_mem 687 (by decide +kernel) rfl
theorem ev_w75 : (Jvm.Cond.initialized "Factloom$ToldTable") ∈ ev_gd := ev_mem 75 (by decide +kernel) rfl
theorem ev_w684 : (Jvm.Cond.methodLink "Factloom" (120 : Nat) ({ cls := "Factloom$ToldTable", name := "brokenHeads", desc := "(LFactloom$Names;)I" } : Jvm.MethodName)) ∈ ev_gd := ev_mem 684 (by decide +kernel) rfl
theorem ev_w685 : (Jvm.Cond.instanceMethod ({ cls := "Factloom$ToldTable", name := "brokenHeads", desc := "(LFactloom$Names;)I" } : Jvm.MethodName)) ∈ ev_gd := ev_mem 685 (by decide +kernel) rfl
theorem ev_w686 : (Jvm.Cond.selects "Factloom$ToldTable" ({ cls := "Factloom$ToldTable", name := "brokenHeads", desc := "(LFactloom$Names;)I" } : Jvm.MethodName) ({ cls := "Factloom$ToldTable", name := "brokenHeads", desc := "(LFactloom$Names;)I" } : Jvm.MethodName)) ∈ ev_gd := ev_mem 686 (by decide +kernel) rfl
theorem ev_w349 : (Jvm.Cond.fieldLink "Factloom" (19 : Nat) "Factloom" "batch" "LFactloom$Batch;") ∈ ev_gd := ev_mem 349 (by decide +kernel) rfl
theorem ev_w149 : (Jvm.Cond.fieldLinkNest "Factloom" (342 : Nat) "Factloom$Batch" "count" "I" "Factloom") ∈ ev_nw := ev_memN 149 (by decide +kernel) rfl
theorem ev_w360 : (Jvm.Cond.fieldLink "Factloom" (103 : Nat) "Factloom" "moment" "I") ∈ ev_gd := ev_mem 360 (by decide +kernel) rfl
theorem ev_w351 : (Jvm.Cond.fieldLink "Factloom" (30 : Nat) "Factloom" "tried" "LFactloom$Rows;") ∈ ev_gd := ev_mem 351 (by decide +kernel) rfl
theorem ev_w174 : (Jvm.Cond.fieldLinkNest "Factloom" (115 : Nat) "Factloom$Rows" "count" "I" "Factloom") ∈ ev_nw := ev_memN 174 (by decide +kernel) rfl
theorem ev_w350 : (Jvm.Cond.fieldLink "Factloom" (26 : Nat) "Factloom" "rows" "LFactloom$Rows;") ∈ ev_gd := ev_mem 350 (by decide +kernel) rfl
theorem ev_w663 : (Jvm.Cond.code ({ cls := "Factloom$Rows", name := "copyFrom", desc := "(LFactloom$Rows;)V" } : Jvm.MethodName) prog_9_method_2_code (2 : Nat) (Option.none : Option Jvm.ClassFile.FieldType)) ∈ ev_gd := ev_mem 663 (by decide +kernel) rfl
theorem ev_w74 : (Jvm.Cond.initialized "Factloom$Rows") ∈ ev_gd := ev_mem 74 (by decide +kernel) rfl
theorem ev_w660 : (Jvm.Cond.methodLink "Factloom" (126 : Nat) ({ cls := "Factloom$Rows", name := "copyFrom", desc := "(LFactloom$Rows;)V" } : Jvm.MethodName)) ∈ ev_gd := ev_mem 660 (by decide +kernel) rfl
theorem ev_w661 : (Jvm.Cond.instanceMethod ({ cls := "Factloom$Rows", name := "copyFrom", desc := "(LFactloom$Rows;)V" } : Jvm.MethodName)) ∈ ev_gd := ev_mem 661 (by decide +kernel) rfl
theorem ev_w662 : (Jvm.Cond.selects "Factloom$Rows" ({ cls := "Factloom$Rows", name := "copyFrom", desc := "(LFactloom$Rows;)V" } : Jvm.MethodName) ({ cls := "Factloom$Rows", name := "copyFrom", desc := "(LFactloom$Rows;)V" } : Jvm.MethodName)) ∈ ev_gd := ev_mem 662 (by decide +kernel) rfl
theorem ev_w404 : (Jvm.Cond.code ({ cls := "Factloom$Batch", name := "empty", desc := "()I" } : Jvm.MethodName) prog_2_method_3_code (2 : Nat) (Option.some Jvm.ClassFile.FieldType.int)) ∈ ev_gd := ev_mem 404 (by decide +kernel) rfl
theorem ev_w73 : (Jvm.Cond.initialized "Factloom$Batch") ∈ ev_gd := ev_mem 73 (by decide +kernel) rfl
theorem ev_w401 : (Jvm.Cond.methodLink "Factloom" (99 : Nat) ({ cls := "Factloom$Batch", name := "empty", desc := "()I" } : Jvm.MethodName)) ∈ ev_gd := ev_mem 401 (by decide +kernel) rfl
theorem ev_w402 : (Jvm.Cond.instanceMethod ({ cls := "Factloom$Batch", name := "empty", desc := "()I" } : Jvm.MethodName)) ∈ ev_gd := ev_mem 402 (by decide +kernel) rfl
theorem ev_w403 : (Jvm.Cond.selects "Factloom$Batch" ({ cls := "Factloom$Batch", name := "empty", desc := "()I" } : Jvm.MethodName) ({ cls := "Factloom$Batch", name := "empty", desc := "()I" } : Jvm.MethodName)) ∈ ev_gd := ev_mem 403 (by decide +kernel) rfl
theorem ev_w448 : (Jvm.Cond.code ({ cls := "Factloom", name := "toldChanged", desc := "()V" } : Jvm.MethodName) prog_1_method_32_code (1 : Nat) (Option.none : Option Jvm.ClassFile.FieldType)) ∈ ev_gd := ev_mem 448 (by decide +kernel) rfl
theorem ev_w445 : (Jvm.Cond.methodLink "Factloom" (130 : Nat) ({ cls := "Factloom", name := "toldChanged", desc := "()V" } : Jvm.MethodName)) ∈ ev_gd := ev_mem 445 (by decide +kernel) rfl
theorem ev_w447 : (Jvm.Cond.instanceMethod ({ cls := "Factloom", name := "toldChanged", desc := "()V" } : Jvm.MethodName)) ∈ ev_gd := ev_mem 447 (by decide +kernel) rfl
theorem ev_w2 : (Cond.selects "Factloom" ⟨"Factloom", "toldChanged", "()V"⟩ ⟨"Factloom", "toldChanged", "()V"⟩) ∈ ev_gd := ev_mem 2 (by decide +kernel) rfl
theorem ev_w114 : (Jvm.Cond.methodLink "Factloom" (1 : Nat) ({ cls := "java/lang/Object", name := "<init>", desc := "()V" } : Jvm.MethodName)) ∈ ev_gd := ev_mem 114 (by decide +kernel) rfl
theorem ev_w117 : (Jvm.Cond.classLink "Factloom" (7 : Nat) "Factloom$Names") ∈ ev_gd := ev_mem 117 (by decide +kernel) rfl
theorem ev_w118 : (Jvm.Cond.instantiable "Factloom$Names" (2 : Nat)) ∈ ev_gd := ev_mem 118 (by decide +kernel) rfl
theorem ev_w72 : (Jvm.Cond.initialized "Factloom$Names") ∈ ev_gd := ev_mem 72 (by decide +kernel) rfl
theorem ev_w121 : (Jvm.Cond.code ({ cls := "Factloom$Names", name := "<init>", desc := "()V" } : Jvm.MethodName) prog_6_method_1_code (1 : Nat) (Option.none : Option Jvm.ClassFile.FieldType)) ∈ ev_gd := ev_mem 121 (by decide +kernel) rfl
theorem ev_w119 : (Jvm.Cond.methodLink "Factloom" (9 : Nat) ({ cls := "Factloom$Names", name := "<init>", desc := "()V" } : Jvm.MethodName)) ∈ ev_gd := ev_mem 119 (by decide +kernel) rfl
theorem ev_w120 : (Jvm.Cond.instanceMethod ({ cls := "Factloom$Names", name := "<init>", desc := "()V" } : Jvm.MethodName)) ∈ ev_gd := ev_mem 120 (by decide +kernel) rfl
theorem ev_w137 : (Jvm.Cond.classLink "Factloom" (16 : Nat) "Factloom$Batch") ∈ ev_gd := ev_mem 137 (by decide +kernel) rfl
theorem ev_w138 : (Jvm.Cond.instantiable "Factloom$Batch" (3 : Nat)) ∈ ev_gd := ev_mem 138 (by decide +kernel) rfl
theorem ev_w141 : (Jvm.Cond.code ({ cls := "Factloom$Batch", name := "<init>", desc := "()V" } : Jvm.MethodName) prog_2_method_1_code (1 : Nat) (Option.none : Option Jvm.ClassFile.FieldType)) ∈ ev_gd := ev_mem 141 (by decide +kernel) rfl
theorem ev_w139 : (Jvm.Cond.methodLinkNest "Factloom" (18 : Nat) ({ cls := "Factloom$Batch", name := "<init>", desc := "()V" } : Jvm.MethodName) "Factloom") ∈ ev_nw := ev_memN 139 (by decide +kernel) rfl
theorem ev_w140 : (Jvm.Cond.instanceMethod ({ cls := "Factloom$Batch", name := "<init>", desc := "()V" } : Jvm.MethodName)) ∈ ev_gd := ev_mem 140 (by decide +kernel) rfl
theorem ev_w157 : (Jvm.Cond.classLink "Factloom" (23 : Nat) "Factloom$Rows") ∈ ev_gd := ev_mem 157 (by decide +kernel) rfl
theorem ev_w158 : (Jvm.Cond.instantiable "Factloom$Rows" (6 : Nat)) ∈ ev_gd := ev_mem 158 (by decide +kernel) rfl
theorem ev_w161 : (Jvm.Cond.code ({ cls := "Factloom$Rows", name := "<init>", desc := "()V" } : Jvm.MethodName) prog_9_method_1_code (1 : Nat) (Option.none : Option Jvm.ClassFile.FieldType)) ∈ ev_gd := ev_mem 161 (by decide +kernel) rfl
theorem ev_w159 : (Jvm.Cond.methodLinkNest "Factloom" (25 : Nat) ({ cls := "Factloom$Rows", name := "<init>", desc := "()V" } : Jvm.MethodName) "Factloom") ∈ ev_nw := ev_memN 159 (by decide +kernel) rfl
theorem ev_w160 : (Jvm.Cond.instanceMethod ({ cls := "Factloom$Rows", name := "<init>", desc := "()V" } : Jvm.MethodName)) ∈ ev_gd := ev_mem 160 (by decide +kernel) rfl
theorem ev_w188 : (Jvm.Cond.classLink "Factloom" (33 : Nat) "Factloom$ToldTable") ∈ ev_gd := ev_mem 188 (by decide +kernel) rfl
theorem ev_w189 : (Jvm.Cond.instantiable "Factloom$ToldTable" (1 : Nat)) ∈ ev_gd := ev_mem 189 (by decide +kernel) rfl
theorem ev_w192 : (Jvm.Cond.code ({ cls := "Factloom$ToldTable", name := "<init>", desc := "()V" } : Jvm.MethodName) prog_11_method_1_code (1 : Nat) (Option.none : Option Jvm.ClassFile.FieldType)) ∈ ev_gd := ev_mem 192 (by decide +kernel) rfl
theorem ev_w190 : (Jvm.Cond.methodLinkNest "Factloom" (35 : Nat) ({ cls := "Factloom$ToldTable", name := "<init>", desc := "()V" } : Jvm.MethodName) "Factloom") ∈ ev_nw := ev_memN 190 (by decide +kernel) rfl
theorem ev_w191 : (Jvm.Cond.instanceMethod ({ cls := "Factloom$ToldTable", name := "<init>", desc := "()V" } : Jvm.MethodName)) ∈ ev_gd := ev_mem 191 (by decide +kernel) rfl
theorem ev_w352 : (Jvm.Cond.fieldLink "Factloom" (36 : Nat) "Factloom" "toldNow" "LFactloom$ToldTable;") ∈ ev_gd := ev_mem 352 (by decide +kernel) rfl
theorem ev_w198 : (Jvm.Cond.classLink "Factloom" (43 : Nat) "Factloom$Rules") ∈ ev_gd := ev_mem 198 (by decide +kernel) rfl
theorem ev_w199 : (Jvm.Cond.instantiable "Factloom$Rules" (4 : Nat)) ∈ ev_gd := ev_mem 199 (by decide +kernel) rfl
theorem ev_w76 : (Jvm.Cond.initialized "Factloom$Rules") ∈ ev_gd := ev_mem 76 (by decide +kernel) rfl
theorem ev_w202 : (Jvm.Cond.code ({ cls := "Factloom$Rules", name := "<init>", desc := "()V" } : Jvm.MethodName) prog_10_method_1_code (1 : Nat) (Option.none : Option Jvm.ClassFile.FieldType)) ∈ ev_gd := ev_mem 202 (by decide +kernel) rfl
theorem ev_w200 : (Jvm.Cond.methodLinkNest "Factloom" (45 : Nat) ({ cls := "Factloom$Rules", name := "<init>", desc := "()V" } : Jvm.MethodName) "Factloom") ∈ ev_nw := ev_memN 200 (by decide +kernel) rfl
theorem ev_w201 : (Jvm.Cond.instanceMethod ({ cls := "Factloom$Rules", name := "<init>", desc := "()V" } : Jvm.MethodName)) ∈ ev_gd := ev_mem 201 (by decide +kernel) rfl
theorem ev_w354 : (Jvm.Cond.fieldLink "Factloom" (46 : Nat) "Factloom" "rules" "LFactloom$Rules;") ∈ ev_gd := ev_mem 354 (by decide +kernel) rfl
theorem ev_w223 : (Jvm.Cond.classLink "Factloom" (50 : Nat) "Factloom$Grounds") ∈ ev_gd := ev_mem 223 (by decide +kernel) rfl
theorem ev_w224 : (Jvm.Cond.instantiable "Factloom$Grounds" (6 : Nat)) ∈ ev_gd := ev_mem 224 (by decide +kernel) rfl
theorem ev_w77 : (Jvm.Cond.initialized "Factloom$Grounds") ∈ ev_gd := ev_mem 77 (by decide +kernel) rfl
theorem ev_w227 : (Jvm.Cond.code ({ cls := "Factloom$Grounds", name := "<init>", desc := "()V" } : Jvm.MethodName) prog_5_method_1_code (1 : Nat) (Option.none : Option Jvm.ClassFile.FieldType)) ∈ ev_gd := ev_mem 227 (by decide +kernel) rfl
theorem ev_w225 : (Jvm.Cond.methodLinkNest "Factloom" (52 : Nat) ({ cls := "Factloom$Grounds", name := "<init>", desc := "()V" } : Jvm.MethodName) "Factloom") ∈ ev_nw := ev_memN 225 (by decide +kernel) rfl
theorem ev_w226 : (Jvm.Cond.instanceMethod ({ cls := "Factloom$Grounds", name := "<init>", desc := "()V" } : Jvm.MethodName)) ∈ ev_gd := ev_mem 226 (by decide +kernel) rfl
theorem ev_w355 : (Jvm.Cond.fieldLink "Factloom" (53 : Nat) "Factloom" "grounds" "LFactloom$Grounds;") ∈ ev_gd := ev_mem 355 (by decide +kernel) rfl
theorem ev_w272 : (Jvm.Cond.classLink "Factloom" (57 : Nat) "Factloom$Depths") ∈ ev_gd := ev_mem 272 (by decide +kernel) rfl
theorem ev_w273 : (Jvm.Cond.instantiable "Factloom$Depths" (3 : Nat)) ∈ ev_gd := ev_mem 273 (by decide +kernel) rfl
theorem ev_w79 : (Jvm.Cond.initialized "Factloom$Depths") ∈ ev_gd := ev_mem 79 (by decide +kernel) rfl
theorem ev_w276 : (Jvm.Cond.code ({ cls := "Factloom$Depths", name := "<init>", desc := "()V" } : Jvm.MethodName) prog_4_method_1_code (1 : Nat) (Option.none : Option Jvm.ClassFile.FieldType)) ∈ ev_gd := ev_mem 276 (by decide +kernel) rfl
theorem ev_w274 : (Jvm.Cond.methodLinkNest "Factloom" (59 : Nat) ({ cls := "Factloom$Depths", name := "<init>", desc := "()V" } : Jvm.MethodName) "Factloom") ∈ ev_nw := ev_memN 274 (by decide +kernel) rfl
theorem ev_w275 : (Jvm.Cond.instanceMethod ({ cls := "Factloom$Depths", name := "<init>", desc := "()V" } : Jvm.MethodName)) ∈ ev_gd := ev_mem 275 (by decide +kernel) rfl
theorem ev_w356 : (Jvm.Cond.fieldLink "Factloom" (60 : Nat) "Factloom" "depths" "LFactloom$Depths;") ∈ ev_gd := ev_mem 356 (by decide +kernel) rfl
theorem ev_w357 : (Jvm.Cond.fieldLink "Factloom" (64 : Nat) "Factloom" "depthsWithout" "LFactloom$Depths;") ∈ ev_gd := ev_mem 357 (by decide +kernel) rfl
theorem ev_w290 : (Jvm.Cond.classLink "Factloom" (67 : Nat) "Factloom$Origins") ∈ ev_gd := ev_mem 290 (by decide +kernel) rfl
theorem ev_w291 : (Jvm.Cond.instantiable "Factloom$Origins" (3 : Nat)) ∈ ev_gd := ev_mem 291 (by decide +kernel) rfl
theorem ev_w80 : (Jvm.Cond.initialized "Factloom$Origins") ∈ ev_gd := ev_mem 80 (by decide +kernel) rfl
theorem ev_w294 : (Jvm.Cond.code ({ cls := "Factloom$Origins", name := "<init>", desc := "()V" } : Jvm.MethodName) prog_7_method_1_code (1 : Nat) (Option.none : Option Jvm.ClassFile.FieldType)) ∈ ev_gd := ev_mem 294 (by decide +kernel) rfl
theorem ev_w292 : (Jvm.Cond.methodLinkNest "Factloom" (69 : Nat) ({ cls := "Factloom$Origins", name := "<init>", desc := "()V" } : Jvm.MethodName) "Factloom") ∈ ev_nw := ev_memN 292 (by decide +kernel) rfl
theorem ev_w293 : (Jvm.Cond.instanceMethod ({ cls := "Factloom$Origins", name := "<init>", desc := "()V" } : Jvm.MethodName)) ∈ ev_gd := ev_mem 293 (by decide +kernel) rfl
theorem ev_w358 : (Jvm.Cond.fieldLink "Factloom" (70 : Nat) "Factloom" "origins" "LFactloom$Origins;") ∈ ev_gd := ev_mem 358 (by decide +kernel) rfl
theorem ev_w309 : (Jvm.Cond.classLink "Factloom" (74 : Nat) "Factloom$Question") ∈ ev_gd := ev_mem 309 (by decide +kernel) rfl
theorem ev_w310 : (Jvm.Cond.instantiable "Factloom$Question" (9 : Nat)) ∈ ev_gd := ev_mem 310 (by decide +kernel) rfl
theorem ev_w81 : (Jvm.Cond.initialized "Factloom$Question") ∈ ev_gd := ev_mem 81 (by decide +kernel) rfl
theorem ev_w313 : (Jvm.Cond.code ({ cls := "Factloom$Question", name := "<init>", desc := "()V" } : Jvm.MethodName) prog_8_method_1_code (1 : Nat) (Option.none : Option Jvm.ClassFile.FieldType)) ∈ ev_gd := ev_mem 313 (by decide +kernel) rfl
theorem ev_w311 : (Jvm.Cond.methodLinkNest "Factloom" (76 : Nat) ({ cls := "Factloom$Question", name := "<init>", desc := "()V" } : Jvm.MethodName) "Factloom") ∈ ev_nw := ev_memN 311 (by decide +kernel) rfl
theorem ev_w312 : (Jvm.Cond.instanceMethod ({ cls := "Factloom$Question", name := "<init>", desc := "()V" } : Jvm.MethodName)) ∈ ev_gd := ev_mem 312 (by decide +kernel) rfl
theorem ev_w359 : (Jvm.Cond.fieldLink "Factloom" (77 : Nat) "Factloom" "question" "LFactloom$Question;") ∈ ev_gd := ev_mem 359 (by decide +kernel) rfl
theorem ev_w789 : (Jvm.Cond.code ({ cls := "Factloom", name := "checkTriple", desc := "(I)V" } : Jvm.MethodName) prog_1_method_45_code (1 : Nat) (Option.none : Option Jvm.ClassFile.FieldType)) ∈ ev_gd := ev_mem 789 (by decide +kernel) rfl
theorem ev_w787 : (Jvm.Cond.methodLink "Factloom" (81 : Nat) ({ cls := "Factloom", name := "checkTriple", desc := "(I)V" } : Jvm.MethodName)) ∈ ev_gd := ev_mem 787 (by decide +kernel) rfl
theorem ev_w788 : (Jvm.Cond.static ({ cls := "Factloom", name := "checkTriple", desc := "(I)V" } : Jvm.MethodName)) ∈ ev_gd := ev_mem 788 (by decide +kernel) rfl
theorem ev_w862 : (Jvm.Cond.code ({ cls := "Factloom", name := "checkBatchRoom", desc := "()V" } : Jvm.MethodName) prog_1_method_50_code (1 : Nat) (Option.none : Option Jvm.ClassFile.FieldType)) ∈ ev_gd := ev_mem 862 (by decide +kernel) rfl
theorem ev_w859 : (Jvm.Cond.methodLink "Factloom" (92 : Nat) ({ cls := "Factloom", name := "checkBatchRoom", desc := "()V" } : Jvm.MethodName)) ∈ ev_gd := ev_mem 859 (by decide +kernel) rfl
theorem ev_w861 : (Jvm.Cond.instanceMethod ({ cls := "Factloom", name := "checkBatchRoom", desc := "()V" } : Jvm.MethodName)) ∈ ev_gd := ev_mem 861 (by decide +kernel) rfl
theorem ev_w34 : (Cond.selects "Factloom" ⟨"Factloom", "checkBatchRoom", "()V"⟩ ⟨"Factloom", "checkBatchRoom", "()V"⟩) ∈ ev_gd := ev_mem 34 (by decide +kernel) rfl
theorem ev_w882 : (Jvm.Cond.code ({ cls := "Factloom$Batch", name := "add", desc := "(II)I" } : Jvm.MethodName) prog_2_method_2_code (3 : Nat) (Option.some Jvm.ClassFile.FieldType.int)) ∈ ev_gd := ev_mem 882 (by decide +kernel) rfl
theorem ev_w879 : (Jvm.Cond.methodLink "Factloom" (95 : Nat) ({ cls := "Factloom$Batch", name := "add", desc := "(II)I" } : Jvm.MethodName)) ∈ ev_gd := ev_mem 879 (by decide +kernel) rfl
theorem ev_w880 : (Jvm.Cond.instanceMethod ({ cls := "Factloom$Batch", name := "add", desc := "(II)I" } : Jvm.MethodName)) ∈ ev_gd := ev_mem 880 (by decide +kernel) rfl
theorem ev_w881 : (Jvm.Cond.selects "Factloom$Batch" ({ cls := "Factloom$Batch", name := "add", desc := "(II)I" } : Jvm.MethodName) ({ cls := "Factloom$Batch", name := "add", desc := "(II)I" } : Jvm.MethodName)) ∈ ev_gd := ev_mem 881 (by decide +kernel) rfl
theorem ev_w452 : (Jvm.Cond.code ({ cls := "Factloom$ToldTable", name := "gather", desc := "(LFactloom$Rows;I)V" } : Jvm.MethodName) prog_11_method_2_code (6 : Nat) (Option.none : Option Jvm.ClassFile.FieldType)) ∈ ev_gd := ev_mem 452 (by decide +kernel) rfl
theorem ev_w449 : (Jvm.Cond.methodLink "Factloom" (212 : Nat) ({ cls := "Factloom$ToldTable", name := "gather", desc := "(LFactloom$Rows;I)V" } : Jvm.MethodName)) ∈ ev_gd := ev_mem 449 (by decide +kernel) rfl
theorem ev_w450 : (Jvm.Cond.instanceMethod ({ cls := "Factloom$ToldTable", name := "gather", desc := "(LFactloom$Rows;I)V" } : Jvm.MethodName)) ∈ ev_gd := ev_mem 450 (by decide +kernel) rfl
theorem ev_w451 : (Jvm.Cond.selects "Factloom$ToldTable" ({ cls := "Factloom$ToldTable", name := "gather", desc := "(LFactloom$Rows;I)V" } : Jvm.MethodName) ({ cls := "Factloom$ToldTable", name := "gather", desc := "(LFactloom$Rows;I)V" } : Jvm.MethodName)) ∈ ev_gd := ev_mem 451 (by decide +kernel) rfl
theorem ev_w362 : (Jvm.Cond.fieldLink "Factloom" (306 : Nat) "Factloom" "heldFresh" "Z") ∈ ev_gd := ev_mem 362 (by decide +kernel) rfl
theorem ev_w363 : (Jvm.Cond.fieldLink "Factloom" (188 : Nat) "Factloom" "answersFresh" "Z") ∈ ev_gd := ev_mem 363 (by decide +kernel) rfl
theorem ev_w668 : (Jvm.Cond.code ({ cls := "Factloom$Rows", name := "take", desc := "(LFactloom$Batch;ILFactloom$Names;)V" } : Jvm.MethodName) prog_9_method_4_code (7 : Nat) (Option.none : Option Jvm.ClassFile.FieldType)) ∈ ev_gd := ev_mem 668 (by decide +kernel) rfl
theorem ev_w665 : (Jvm.Cond.methodLink "Factloom" (321 : Nat) ({ cls := "Factloom$Rows", name := "take", desc := "(LFactloom$Batch;ILFactloom$Names;)V" } : Jvm.MethodName)) ∈ ev_gd := ev_mem 665 (by decide +kernel) rfl
theorem ev_w666 : (Jvm.Cond.instanceMethod ({ cls := "Factloom$Rows", name := "take", desc := "(LFactloom$Batch;ILFactloom$Names;)V" } : Jvm.MethodName)) ∈ ev_gd := ev_mem 666 (by decide +kernel) rfl
theorem ev_w667 : (Jvm.Cond.selects "Factloom$Rows" ({ cls := "Factloom$Rows", name := "take", desc := "(LFactloom$Batch;ILFactloom$Names;)V" } : Jvm.MethodName) ({ cls := "Factloom$Rows", name := "take", desc := "(LFactloom$Batch;ILFactloom$Names;)V" } : Jvm.MethodName)) ∈ ev_gd := ev_mem 667 (by decide +kernel) rfl
theorem ev_w770 : (Jvm.Cond.methodLink "FactloomLaw$Out" (1 : Nat) ({ cls := "java/lang/Object", name := "<init>", desc := "()V" } : Jvm.MethodName)) ∈ ev_gd := ev_mem 770 (by decide +kernel) rfl
theorem ev_w1573 : (Jvm.Cond.fieldLink "FactloomModel$Row" (15 : Nat) "FactloomModel$Row" "from" "I") ∈ ev_gd := ev_mem 1573 (by decide +kernel) rfl
theorem ev_w1575 : (Jvm.Cond.fieldLink "FactloomModel$Row" (9 : Nat) "FactloomModel$Row" "till" "I") ∈ ev_gd := ev_mem 1575 (by decide +kernel) rfl
theorem ev_w1570 : (Jvm.Cond.methodLink "FactloomModel$Row" (3 : Nat) ({ cls := "java/lang/Object", name := "<init>", desc := "()V" } : Jvm.MethodName)) ∈ ev_gd := ev_mem 1570 (by decide +kernel) rfl
theorem ev_w1610 : (Jvm.Cond.code ({ cls := "FactloomModel", name := "told", desc := "(Ljava/util/ArrayList;II)[Z" } : Jvm.MethodName) prog_14_method_27_code (7 : Nat) (Option.some (Jvm.ClassFile.FieldType.array Jvm.ClassFile.FieldType.boolean))) ∈ ev_gd := ev_mem 1610 (by decide +kernel) rfl
theorem ev_w1607 : (Jvm.Cond.methodLink "FactloomModel" (143 : Nat) ({ cls := "FactloomModel", name := "told", desc := "(Ljava/util/ArrayList;II)[Z" } : Jvm.MethodName)) ∈ ev_gd := ev_mem 1607 (by decide +kernel) rfl
theorem ev_w1609 : (Jvm.Cond.instanceMethod ({ cls := "FactloomModel", name := "told", desc := "(Ljava/util/ArrayList;II)[Z" } : Jvm.MethodName)) ∈ ev_gd := ev_mem 1609 (by decide +kernel) rfl
theorem ev_w45 : (Cond.selects "FactloomModel" ⟨"FactloomModel", "told", "(Ljava/util/ArrayList;II)[Z"⟩ ⟨"FactloomModel", "told", "(Ljava/util/ArrayList;II)[Z"⟩) ∈ ev_gd := ev_mem 45 (by decide +kernel) rfl
theorem ev_w1391 : (Jvm.Cond.fieldLink "FactloomModel" (147 : Nat) "FactloomModel" "singles" "I") ∈ ev_gd := ev_mem 1391 (by decide +kernel) rfl
theorem ev_w1384 : (Jvm.Cond.fieldLink "FactloomModel" (7 : Nat) "FactloomModel" "heads" "[I") ∈ ev_gd := ev_mem 1384 (by decide +kernel) rfl
theorem ev_w1383 : (Jvm.Cond.fieldLink "FactloomModel" (33 : Nat) "FactloomModel" "thrown" "I") ∈ ev_gd := ev_mem 1383 (by decide +kernel) rfl
theorem ev_w1518 : (Jvm.Cond.code ({ cls := "FactloomModel", name := "committed", desc := "()Ljava/util/ArrayList;" } : Jvm.MethodName) prog_14_method_21_code (8 : Nat) (Option.some (Jvm.ClassFile.FieldType.object "java/util/ArrayList"))) ∈ ev_gd := ev_mem 1518 (by decide +kernel) rfl
theorem ev_w1515 : (Jvm.Cond.methodLink "FactloomModel" (117 : Nat) ({ cls := "FactloomModel", name := "committed", desc := "()Ljava/util/ArrayList;" } : Jvm.MethodName)) ∈ ev_gd := ev_mem 1515 (by decide +kernel) rfl
theorem ev_w1517 : (Jvm.Cond.instanceMethod ({ cls := "FactloomModel", name := "committed", desc := "()Ljava/util/ArrayList;" } : Jvm.MethodName)) ∈ ev_gd := ev_mem 1517 (by decide +kernel) rfl
theorem ev_w41 : (Cond.selects "FactloomModel" ⟨"FactloomModel", "committed", "()Ljava/util/ArrayList;"⟩ ⟨"FactloomModel", "committed", "()Ljava/util/ArrayList;"⟩) ∈ ev_gd := ev_mem 41 (by decide +kernel) rfl
theorem ev_w1385 : (Jvm.Cond.fieldLink "FactloomModel" (74 : Nat) "FactloomModel" "moment" "I") ∈ ev_gd := ev_mem 1385 (by decide +kernel) rfl
theorem ev_w1606 : (Jvm.Cond.code ({ cls := "FactloomModel", name := "broken", desc := "(Ljava/util/ArrayList;I)I" } : Jvm.MethodName) prog_14_method_28_code (10 : Nat) (Option.some Jvm.ClassFile.FieldType.int)) ∈ ev_gd := ev_mem 1606 (by decide +kernel) rfl
theorem ev_w1603 : (Jvm.Cond.methodLink "FactloomModel" (121 : Nat) ({ cls := "FactloomModel", name := "broken", desc := "(Ljava/util/ArrayList;I)I" } : Jvm.MethodName)) ∈ ev_gd := ev_mem 1603 (by decide +kernel) rfl
theorem ev_w1605 : (Jvm.Cond.instanceMethod ({ cls := "FactloomModel", name := "broken", desc := "(Ljava/util/ArrayList;I)I" } : Jvm.MethodName)) ∈ ev_gd := ev_mem 1605 (by decide +kernel) rfl
theorem ev_w44 : (Cond.selects "FactloomModel" ⟨"FactloomModel", "broken", "(Ljava/util/ArrayList;I)I"⟩ ⟨"FactloomModel", "broken", "(Ljava/util/ArrayList;I)I"⟩) ∈ ev_gd := ev_mem 44 (by decide +kernel) rfl
theorem ev_w1444 : (Jvm.Cond.code ({ cls := "java/util/ArrayList", name := "size", desc := "()I" } : Jvm.MethodName) prog_42_method_8_code (1 : Nat) (Option.some Jvm.ClassFile.FieldType.int)) ∈ ev_gd := ev_mem 1444 (by decide +kernel) rfl
theorem ev_w1441 : (Jvm.Cond.methodLink "FactloomModel" (63 : Nat) ({ cls := "java/util/ArrayList", name := "size", desc := "()I" } : Jvm.MethodName)) ∈ ev_gd := ev_mem 1441 (by decide +kernel) rfl
theorem ev_w1442 : (Jvm.Cond.instanceMethod ({ cls := "java/util/ArrayList", name := "size", desc := "()I" } : Jvm.MethodName)) ∈ ev_gd := ev_mem 1442 (by decide +kernel) rfl
theorem ev_w1443 : (Jvm.Cond.selects "java/util/ArrayList" ({ cls := "java/util/ArrayList", name := "size", desc := "()I" } : Jvm.MethodName) ({ cls := "java/util/ArrayList", name := "size", desc := "()I" } : Jvm.MethodName)) ∈ ev_gd := ev_mem 1443 (by decide +kernel) rfl
theorem ev_w1386 : (Jvm.Cond.fieldLink "FactloomModel" (16 : Nat) "FactloomModel" "rows" "Ljava/util/ArrayList;") ∈ ev_gd := ev_mem 1386 (by decide +kernel) rfl
theorem ev_w1510 : (Jvm.Cond.code ({ cls := "java/util/ArrayList", name := "clear", desc := "()V" } : Jvm.MethodName) prog_42_method_40_code (4 : Nat) (Option.none : Option Jvm.ClassFile.FieldType)) ∈ ev_gd := ev_mem 1510 (by decide +kernel) rfl
theorem ev_w1507 : (Jvm.Cond.methodLink "FactloomModel" (71 : Nat) ({ cls := "java/util/ArrayList", name := "clear", desc := "()V" } : Jvm.MethodName)) ∈ ev_gd := ev_mem 1507 (by decide +kernel) rfl
theorem ev_w1508 : (Jvm.Cond.instanceMethod ({ cls := "java/util/ArrayList", name := "clear", desc := "()V" } : Jvm.MethodName)) ∈ ev_gd := ev_mem 1508 (by decide +kernel) rfl
theorem ev_w1509 : (Jvm.Cond.selects "java/util/ArrayList" ({ cls := "java/util/ArrayList", name := "clear", desc := "()V" } : Jvm.MethodName) ({ cls := "java/util/ArrayList", name := "clear", desc := "()V" } : Jvm.MethodName)) ∈ ev_gd := ev_mem 1509 (by decide +kernel) rfl
theorem ev_w1522 : (Jvm.Cond.code ({ cls := "java/util/ArrayList", name := "iterator", desc := "()Ljava/util/Iterator;" } : Jvm.MethodName) prog_42_method_55_code (1 : Nat) (Option.some (Jvm.ClassFile.FieldType.object "java/util/Iterator"))) ∈ ev_gd := ev_mem 1522 (by decide +kernel) rfl
theorem ev_w1519 : (Jvm.Cond.methodLink "FactloomModel" (77 : Nat) ({ cls := "java/util/ArrayList", name := "iterator", desc := "()Ljava/util/Iterator;" } : Jvm.MethodName)) ∈ ev_gd := ev_mem 1519 (by decide +kernel) rfl
theorem ev_w1520 : (Jvm.Cond.instanceMethod ({ cls := "java/util/ArrayList", name := "iterator", desc := "()Ljava/util/Iterator;" } : Jvm.MethodName)) ∈ ev_gd := ev_mem 1520 (by decide +kernel) rfl
theorem ev_w1521 : (Jvm.Cond.selects "java/util/ArrayList" ({ cls := "java/util/ArrayList", name := "iterator", desc := "()Ljava/util/Iterator;" } : Jvm.MethodName) ({ cls := "java/util/ArrayList", name := "iterator", desc := "()Ljava/util/Iterator;" } : Jvm.MethodName)) ∈ ev_gd := ev_mem 1521 (by decide +kernel) rfl
theorem ev_w1551 : (Jvm.Cond.code ({ cls := "java/util/ArrayList$Itr", name := "hasNext", desc := "()Z" } : Jvm.MethodName) prog_43_method_2_code (1 : Nat) (Option.some Jvm.ClassFile.FieldType.boolean)) ∈ ev_gd := ev_mem 1551 (by decide +kernel) rfl
theorem ev_w1543 : (Jvm.Cond.methodLink "FactloomModel" (81 : Nat) ({ cls := "java/util/Iterator", name := "hasNext", desc := "()Z" } : Jvm.MethodName)) ∈ ev_gd := ev_mem 1543 (by decide +kernel) rfl
theorem ev_w1547 : (Jvm.Cond.selects "java/util/ArrayList$Itr" ({ cls := "java/util/Iterator", name := "hasNext", desc := "()Z" } : Jvm.MethodName) ({ cls := "java/util/ArrayList$Itr", name := "hasNext", desc := "()Z" } : Jvm.MethodName)) ∈ ev_gd := ev_mem 1547 (by decide +kernel) rfl
theorem ev_w1549 : (Jvm.Cond.instanceMethod ({ cls := "java/util/ArrayList$Itr", name := "hasNext", desc := "()Z" } : Jvm.MethodName)) ∈ ev_gd := ev_mem 1549 (by decide +kernel) rfl
theorem ev_w1560 : (Jvm.Cond.code ({ cls := "java/util/ArrayList$Itr", name := "next", desc := "()Ljava/lang/Object;" } : Jvm.MethodName) prog_43_method_3_code (3 : Nat) (Option.some (Jvm.ClassFile.FieldType.object "java/lang/Object"))) ∈ ev_gd := ev_mem 1560 (by decide +kernel) rfl
theorem ev_w1553 : (Jvm.Cond.methodLink "FactloomModel" (87 : Nat) ({ cls := "java/util/Iterator", name := "next", desc := "()Ljava/lang/Object;" } : Jvm.MethodName)) ∈ ev_gd := ev_mem 1553 (by decide +kernel) rfl
theorem ev_w1556 : (Jvm.Cond.selects "java/util/ArrayList$Itr" ({ cls := "java/util/Iterator", name := "next", desc := "()Ljava/lang/Object;" } : Jvm.MethodName) ({ cls := "java/util/ArrayList$Itr", name := "next", desc := "()Ljava/lang/Object;" } : Jvm.MethodName)) ∈ ev_gd := ev_mem 1556 (by decide +kernel) rfl
theorem ev_w1558 : (Jvm.Cond.instanceMethod ({ cls := "java/util/ArrayList$Itr", name := "next", desc := "()Ljava/lang/Object;" } : Jvm.MethodName)) ∈ ev_gd := ev_mem 1558 (by decide +kernel) rfl
theorem ev_w1565 : (Jvm.Cond.classLink "FactloomModel" (91 : Nat) "FactloomModel$Row") ∈ ev_gd := ev_mem 1565 (by decide +kernel) rfl
theorem ev_w1448 : (Jvm.Cond.code ({ cls := "java/util/ArrayList", name := "add", desc := "(Ljava/lang/Object;)Z" } : Jvm.MethodName) prog_42_method_25_code (2 : Nat) (Option.some Jvm.ClassFile.FieldType.boolean)) ∈ ev_gd := ev_mem 1448 (by decide +kernel) rfl
theorem ev_w1445 : (Jvm.Cond.methodLink "FactloomModel" (67 : Nat) ({ cls := "java/util/ArrayList", name := "add", desc := "(Ljava/lang/Object;)Z" } : Jvm.MethodName)) ∈ ev_gd := ev_mem 1445 (by decide +kernel) rfl
theorem ev_w1446 : (Jvm.Cond.instanceMethod ({ cls := "java/util/ArrayList", name := "add", desc := "(Ljava/lang/Object;)Z" } : Jvm.MethodName)) ∈ ev_gd := ev_mem 1446 (by decide +kernel) rfl
theorem ev_w1447 : (Jvm.Cond.selects "java/util/ArrayList" ({ cls := "java/util/ArrayList", name := "add", desc := "(Ljava/lang/Object;)Z" } : Jvm.MethodName) ({ cls := "java/util/ArrayList", name := "add", desc := "(Ljava/lang/Object;)Z" } : Jvm.MethodName)) ∈ ev_gd := ev_mem 1447 (by decide +kernel) rfl
theorem ev_w1387 : (Jvm.Cond.fieldLink "FactloomModel" (20 : Nat) "FactloomModel" "batch" "Ljava/util/ArrayList;") ∈ ev_gd := ev_mem 1387 (by decide +kernel) rfl
theorem ev_w1614 : (Jvm.Cond.code ({ cls := "FactloomModel", name := "forget", desc := "()V" } : Jvm.MethodName) prog_14_method_23_code (1 : Nat) (Option.none : Option Jvm.ClassFile.FieldType)) ∈ ev_gd := ev_mem 1614 (by decide +kernel) rfl
theorem ev_w1611 : (Jvm.Cond.methodLink "FactloomModel" (125 : Nat) ({ cls := "FactloomModel", name := "forget", desc := "()V" } : Jvm.MethodName)) ∈ ev_gd := ev_mem 1611 (by decide +kernel) rfl
theorem ev_w1613 : (Jvm.Cond.instanceMethod ({ cls := "FactloomModel", name := "forget", desc := "()V" } : Jvm.MethodName)) ∈ ev_gd := ev_mem 1613 (by decide +kernel) rfl
theorem ev_w46 : (Cond.selects "FactloomModel" ⟨"FactloomModel", "forget", "()V"⟩ ⟨"FactloomModel", "forget", "()V"⟩) ∈ ev_gd := ev_mem 46 (by decide +kernel) rfl
theorem ev_w1354 : (Jvm.Cond.classLink "FactloomModel" (13 : Nat) "java/util/ArrayList") ∈ ev_gd := ev_mem 1354 (by decide +kernel) rfl
theorem ev_w1355 : (Jvm.Cond.instantiable "java/util/ArrayList" (3 : Nat)) ∈ ev_gd := ev_mem 1355 (by decide +kernel) rfl
theorem ev_w1358 : (Jvm.Cond.code ({ cls := "java/util/ArrayList", name := "<init>", desc := "()V" } : Jvm.MethodName) prog_42_method_2_code (1 : Nat) (Option.none : Option Jvm.ClassFile.FieldType)) ∈ ev_gd := ev_mem 1358 (by decide +kernel) rfl
theorem ev_w1356 : (Jvm.Cond.methodLink "FactloomModel" (15 : Nat) ({ cls := "java/util/ArrayList", name := "<init>", desc := "()V" } : Jvm.MethodName)) ∈ ev_gd := ev_mem 1356 (by decide +kernel) rfl
theorem ev_w1357 : (Jvm.Cond.instanceMethod ({ cls := "java/util/ArrayList", name := "<init>", desc := "()V" } : Jvm.MethodName)) ∈ ev_gd := ev_mem 1357 (by decide +kernel) rfl
theorem ev_w1566 : (Jvm.Cond.instantiable "FactloomModel$Row" (4 : Nat)) ∈ ev_gd := ev_mem 1566 (by decide +kernel) rfl
theorem ev_w99 : (Jvm.Cond.initialized "FactloomModel$Row") ∈ ev_gd := ev_mem 99 (by decide +kernel) rfl
theorem ev_w1569 : (Jvm.Cond.code ({ cls := "FactloomModel$Row", name := "<init>", desc := "()V" } : Jvm.MethodName) prog_15_method_1_code (1 : Nat) (Option.none : Option Jvm.ClassFile.FieldType)) ∈ ev_gd := ev_mem 1569 (by decide +kernel) rfl
theorem ev_w1567 : (Jvm.Cond.methodLinkNest "FactloomModel" (93 : Nat) ({ cls := "FactloomModel$Row", name := "<init>", desc := "()V" } : Jvm.MethodName) "FactloomModel") ∈ ev_nw := ev_memN 1567 (by decide +kernel) rfl
theorem ev_w1568 : (Jvm.Cond.instanceMethod ({ cls := "FactloomModel$Row", name := "<init>", desc := "()V" } : Jvm.MethodName)) ∈ ev_gd := ev_mem 1568 (by decide +kernel) rfl
theorem ev_w1571 : (Jvm.Cond.fieldLinkNest "FactloomModel" (94 : Nat) "FactloomModel$Row" "triple" "I" "FactloomModel") ∈ ev_nw := ev_memN 1571 (by decide +kernel) rfl
theorem ev_w1572 : (Jvm.Cond.fieldLinkNest "FactloomModel" (97 : Nat) "FactloomModel$Row" "trust" "I" "FactloomModel") ∈ ev_nw := ev_memN 1572 (by decide +kernel) rfl
theorem ev_w1574 : (Jvm.Cond.fieldLinkNest "FactloomModel" (100 : Nat) "FactloomModel$Row" "from" "I" "FactloomModel") ∈ ev_nw := ev_memN 1574 (by decide +kernel) rfl
theorem ev_w1576 : (Jvm.Cond.fieldLinkNest "FactloomModel" (103 : Nat) "FactloomModel$Row" "till" "I" "FactloomModel") ∈ ev_nw := ev_memN 1576 (by decide +kernel) rfl
theorem ev_w1586 : (Jvm.Cond.classLink "FactloomModel" (106 : Nat) "[I") ∈ ev_gd := ev_mem 1586 (by decide +kernel) rfl
theorem ev_w1590 : (Jvm.Cond.code ({ cls := "FactloomModel$Row", name := "holds", desc := "(I)Z" } : Jvm.MethodName) prog_15_method_2_code (2 : Nat) (Option.some Jvm.ClassFile.FieldType.boolean)) ∈ ev_gd := ev_mem 1590 (by decide +kernel) rfl
theorem ev_w1587 : (Jvm.Cond.methodLink "FactloomModel" (107 : Nat) ({ cls := "FactloomModel$Row", name := "holds", desc := "(I)Z" } : Jvm.MethodName)) ∈ ev_gd := ev_mem 1587 (by decide +kernel) rfl
theorem ev_w1588 : (Jvm.Cond.instanceMethod ({ cls := "FactloomModel$Row", name := "holds", desc := "(I)Z" } : Jvm.MethodName)) ∈ ev_gd := ev_mem 1588 (by decide +kernel) rfl
theorem ev_w1589 : (Jvm.Cond.selects "FactloomModel$Row" ({ cls := "FactloomModel$Row", name := "holds", desc := "(I)Z" } : Jvm.MethodName) ({ cls := "FactloomModel$Row", name := "holds", desc := "(I)Z" } : Jvm.MethodName)) ∈ ev_gd := ev_mem 1589 (by decide +kernel) rfl
theorem ev_w1594 : (Jvm.Cond.code ({ cls := "FactloomModel", name := "place", desc := "(I)I" } : Jvm.MethodName) prog_14_method_13_code (2 : Nat) (Option.some Jvm.ClassFile.FieldType.int)) ∈ ev_gd := ev_mem 1594 (by decide +kernel) rfl
theorem ev_w1591 : (Jvm.Cond.methodLink "FactloomModel" (110 : Nat) ({ cls := "FactloomModel", name := "place", desc := "(I)I" } : Jvm.MethodName)) ∈ ev_gd := ev_mem 1591 (by decide +kernel) rfl
theorem ev_w1593 : (Jvm.Cond.instanceMethod ({ cls := "FactloomModel", name := "place", desc := "(I)I" } : Jvm.MethodName)) ∈ ev_gd := ev_mem 1593 (by decide +kernel) rfl
theorem ev_w42 : (Cond.selects "FactloomModel" ⟨"FactloomModel", "place", "(I)I"⟩ ⟨"FactloomModel", "place", "(I)I"⟩) ∈ ev_gd := ev_mem 42 (by decide +kernel) rfl
theorem ev_w1392 : (Jvm.Cond.fieldLink "FactloomModel" (128 : Nat) "FactloomModel" "known" "[I") ∈ ev_gd := ev_mem 1392 (by decide +kernel) rfl
theorem ev_w1393 : (Jvm.Cond.fieldLink "FactloomModel" (131 : Nat) "FactloomModel" "best" "[I") ∈ ev_gd := ev_mem 1393 (by decide +kernel) rfl
theorem ev_w1353 : (Jvm.Cond.methodLink "FactloomModel" (1 : Nat) ({ cls := "java/lang/Object", name := "<init>", desc := "()V" } : Jvm.MethodName)) ∈ ev_gd := ev_mem 1353 (by decide +kernel) rfl
theorem ev_w1388 : (Jvm.Cond.fieldLink "FactloomModel" (23 : Nat) "FactloomModel" "rules" "Ljava/util/ArrayList;") ∈ ev_gd := ev_mem 1388 (by decide +kernel) rfl
theorem ev_w1389 : (Jvm.Cond.fieldLink "FactloomModel" (26 : Nat) "FactloomModel" "patterns" "Ljava/util/ArrayList;") ∈ ev_gd := ev_mem 1389 (by decide +kernel) rfl
theorem ev_w1390 : (Jvm.Cond.fieldLink "FactloomModel" (29 : Nat) "FactloomModel" "not" "I") ∈ ev_gd := ev_mem 1390 (by decide +kernel) rfl
theorem ev_w1433 : (Jvm.Cond.code ({ cls := "FactloomModel", name := "is", desc := "(III)Z" } : Jvm.MethodName) prog_14_method_4_code (3 : Nat) (Option.some Jvm.ClassFile.FieldType.boolean)) ∈ ev_gd := ev_mem 1433 (by decide +kernel) rfl
theorem ev_w1431 : (Jvm.Cond.methodLink "FactloomModel" (36 : Nat) ({ cls := "FactloomModel", name := "is", desc := "(III)Z" } : Jvm.MethodName)) ∈ ev_gd := ev_mem 1431 (by decide +kernel) rfl
theorem ev_w1432 : (Jvm.Cond.static ({ cls := "FactloomModel", name := "is", desc := "(III)Z" } : Jvm.MethodName)) ∈ ev_gd := ev_mem 1432 (by decide +kernel) rfl
theorem ev_w1436 : (Jvm.Cond.code ({ cls := "FactloomModel", name := "digit", desc := "(II)I" } : Jvm.MethodName) prog_14_method_5_code (2 : Nat) (Option.some Jvm.ClassFile.FieldType.int)) ∈ ev_gd := ev_mem 1436 (by decide +kernel) rfl
theorem ev_w1434 : (Jvm.Cond.methodLink "FactloomModel" (40 : Nat) ({ cls := "FactloomModel", name := "digit", desc := "(II)I" } : Jvm.MethodName)) ∈ ev_gd := ev_mem 1434 (by decide +kernel) rfl
theorem ev_w1435 : (Jvm.Cond.static ({ cls := "FactloomModel", name := "digit", desc := "(II)I" } : Jvm.MethodName)) ∈ ev_gd := ev_mem 1435 (by decide +kernel) rfl
theorem ev_w1597 : (Jvm.Cond.code ({ cls := "FactloomModel", name := "newBinding", desc := "()[I" } : Jvm.MethodName) prog_14_method_12_code (0 : Nat) (Option.some (Jvm.ClassFile.FieldType.array Jvm.ClassFile.FieldType.int))) ∈ ev_gd := ev_mem 1597 (by decide +kernel) rfl
theorem ev_w1595 : (Jvm.Cond.methodLink "FactloomModel" (44 : Nat) ({ cls := "FactloomModel", name := "newBinding", desc := "()[I" } : Jvm.MethodName)) ∈ ev_gd := ev_mem 1595 (by decide +kernel) rfl
theorem ev_w1596 : (Jvm.Cond.static ({ cls := "FactloomModel", name := "newBinding", desc := "()[I" } : Jvm.MethodName)) ∈ ev_gd := ev_mem 1596 (by decide +kernel) rfl
theorem ev_w1601 : (Jvm.Cond.code ({ cls := "FactloomModel", name := "place", desc := "(I[I)I" } : Jvm.MethodName) prog_14_method_11_code (6 : Nat) (Option.some Jvm.ClassFile.FieldType.int)) ∈ ev_gd := ev_mem 1601 (by decide +kernel) rfl
theorem ev_w1598 : (Jvm.Cond.methodLink "FactloomModel" (48 : Nat) ({ cls := "FactloomModel", name := "place", desc := "(I[I)I" } : Jvm.MethodName)) ∈ ev_gd := ev_mem 1598 (by decide +kernel) rfl
theorem ev_w1600 : (Jvm.Cond.instanceMethod ({ cls := "FactloomModel", name := "place", desc := "(I[I)I" } : Jvm.MethodName)) ∈ ev_gd := ev_mem 1600 (by decide +kernel) rfl
theorem ev_w43 : (Cond.selects "FactloomModel" ⟨"FactloomModel", "place", "(I[I)I"⟩ ⟨"FactloomModel", "place", "(I[I)I"⟩) ∈ ev_gd := ev_mem 43 (by decide +kernel) rfl
theorem ev_w1430 : (Jvm.Cond.code ({ cls := "FactloomModel", name := "isTriple", desc := "(I)Z" } : Jvm.MethodName) prog_14_method_6_code (1 : Nat) (Option.some Jvm.ClassFile.FieldType.boolean)) ∈ ev_gd := ev_mem 1430 (by decide +kernel) rfl
theorem ev_w1428 : (Jvm.Cond.methodLink "FactloomModel" (56 : Nat) ({ cls := "FactloomModel", name := "isTriple", desc := "(I)Z" } : Jvm.MethodName)) ∈ ev_gd := ev_mem 1428 (by decide +kernel) rfl
theorem ev_w1429 : (Jvm.Cond.static ({ cls := "FactloomModel", name := "isTriple", desc := "(I)Z" } : Jvm.MethodName)) ∈ ev_gd := ev_mem 1429 (by decide +kernel) rfl
theorem ev_w1615 : (Jvm.Cond.arrayClass Jvm.ClassFile.FieldType.boolean) ∈ ev_gd := ev_mem 1615 (by decide +kernel) rfl
theorem ev_w234 : (Jvm.Cond.methodLink "Factloom$Binding" (3 : Nat) ({ cls := "java/lang/Object", name := "<init>", desc := "()V" } : Jvm.MethodName)) ∈ ev_gd := ev_mem 234 (by decide +kernel) rfl
theorem ev_w235 : (Jvm.Cond.fieldLink "Factloom$Binding" (9 : Nat) "Factloom$Binding" "meaning" "[I") ∈ ev_gd := ev_mem 235 (by decide +kernel) rfl
theorem ev_w277 : (Jvm.Cond.methodLink "Factloom$Depths" (3 : Nat) ({ cls := "java/lang/Object", name := "<init>", desc := "()V" } : Jvm.MethodName)) ∈ ev_gd := ev_mem 277 (by decide +kernel) rfl
theorem ev_w278 : (Jvm.Cond.fieldLink "Factloom$Depths" (9 : Nat) "Factloom$Depths" "depth" "[I") ∈ ev_gd := ev_mem 278 (by decide +kernel) rfl
theorem ev_w228 : (Jvm.Cond.methodLink "Factloom$Grounds" (3 : Nat) ({ cls := "java/lang/Object", name := "<init>", desc := "()V" } : Jvm.MethodName)) ∈ ev_gd := ev_mem 228 (by decide +kernel) rfl
theorem ev_w242 : (Jvm.Cond.fieldLink "Factloom$Grounds" (9 : Nat) "Factloom$Grounds" "ruleOf" "[I") ∈ ev_gd := ev_mem 242 (by decide +kernel) rfl
theorem ev_w244 : (Jvm.Cond.fieldLink "Factloom$Grounds" (15 : Nat) "Factloom$Grounds" "made" "[I") ∈ ev_gd := ev_mem 244 (by decide +kernel) rfl
theorem ev_w247 : (Jvm.Cond.fieldLink "Factloom$Grounds" (18 : Nat) "Factloom$Grounds" "one" "[I") ∈ ev_gd := ev_mem 247 (by decide +kernel) rfl
theorem ev_w251 : (Jvm.Cond.fieldLink "Factloom$Grounds" (21 : Nat) "Factloom$Grounds" "other" "[I") ∈ ev_gd := ev_mem 251 (by decide +kernel) rfl
theorem ev_w229 : (Jvm.Cond.classLink "Factloom$Grounds" (24 : Nat) "Factloom$Binding") ∈ ev_gd := ev_mem 229 (by decide +kernel) rfl
theorem ev_w230 : (Jvm.Cond.instantiable "Factloom$Binding" (2 : Nat)) ∈ ev_gd := ev_mem 230 (by decide +kernel) rfl
theorem ev_w78 : (Jvm.Cond.initialized "Factloom$Binding") ∈ ev_gd := ev_mem 78 (by decide +kernel) rfl
theorem ev_w233 : (Jvm.Cond.code ({ cls := "Factloom$Binding", name := "<init>", desc := "()V" } : Jvm.MethodName) prog_3_method_1_code (1 : Nat) (Option.none : Option Jvm.ClassFile.FieldType)) ∈ ev_gd := ev_mem 233 (by decide +kernel) rfl
theorem ev_w231 : (Jvm.Cond.methodLinkNest "Factloom$Grounds" (26 : Nat) ({ cls := "Factloom$Binding", name := "<init>", desc := "()V" } : Jvm.MethodName) "Factloom") ∈ ev_nw := ev_memN 231 (by decide +kernel) rfl
theorem ev_w232 : (Jvm.Cond.instanceMethod ({ cls := "Factloom$Binding", name := "<init>", desc := "()V" } : Jvm.MethodName)) ∈ ev_gd := ev_mem 232 (by decide +kernel) rfl
theorem ev_w255 : (Jvm.Cond.fieldLink "Factloom$Grounds" (27 : Nat) "Factloom$Grounds" "binding" "LFactloom$Binding;") ∈ ev_gd := ev_mem 255 (by decide +kernel) rfl
theorem ev_w127 : (Jvm.Cond.fieldLink "Factloom$Names" (9 : Nat) "Factloom$Names" "heads" "[I") ∈ ev_gd := ev_mem 127 (by decide +kernel) rfl
theorem ev_w423 : (Jvm.Cond.code ({ cls := "Factloom", name := "at", desc := "([III)I" } : Jvm.MethodName) prog_1_method_51_code (3 : Nat) (Option.some Jvm.ClassFile.FieldType.int)) ∈ ev_gd := ev_mem 423 (by decide +kernel) rfl
theorem ev_w421 : (Jvm.Cond.methodLinkNest "Factloom$Names" (32 : Nat) ({ cls := "Factloom", name := "at", desc := "([III)I" } : Jvm.MethodName) "Factloom") ∈ ev_nw := ev_memN 421 (by decide +kernel) rfl
theorem ev_w422 : (Jvm.Cond.static ({ cls := "Factloom", name := "at", desc := "([III)I" } : Jvm.MethodName)) ∈ ev_gd := ev_mem 422 (by decide +kernel) rfl
theorem ev_w420 : (Jvm.Cond.code ({ cls := "Factloom$Names", name := "headOf", desc := "(I)I" } : Jvm.MethodName) prog_6_method_5_code (2 : Nat) (Option.some Jvm.ClassFile.FieldType.int)) ∈ ev_gd := ev_mem 420 (by decide +kernel) rfl
theorem ev_w417 : (Jvm.Cond.methodLink "Factloom$Names" (18 : Nat) ({ cls := "Factloom$Names", name := "headOf", desc := "(I)I" } : Jvm.MethodName)) ∈ ev_gd := ev_mem 417 (by decide +kernel) rfl
theorem ev_w418 : (Jvm.Cond.instanceMethod ({ cls := "Factloom$Names", name := "headOf", desc := "(I)I" } : Jvm.MethodName)) ∈ ev_gd := ev_mem 418 (by decide +kernel) rfl
theorem ev_w419 : (Jvm.Cond.selects "Factloom$Names" ({ cls := "Factloom$Names", name := "headOf", desc := "(I)I" } : Jvm.MethodName) ({ cls := "Factloom$Names", name := "headOf", desc := "(I)I" } : Jvm.MethodName)) ∈ ev_gd := ev_mem 419 (by decide +kernel) rfl
theorem ev_w122 : (Jvm.Cond.methodLink "Factloom$Names" (3 : Nat) ({ cls := "java/lang/Object", name := "<init>", desc := "()V" } : Jvm.MethodName)) ∈ ev_gd := ev_mem 122 (by decide +kernel) rfl
theorem ev_w126 : (Jvm.Cond.code ({ cls := "Factloom$Names", name := "separate", desc := "()V" } : Jvm.MethodName) prog_6_method_2_code (2 : Nat) (Option.none : Option Jvm.ClassFile.FieldType)) ∈ ev_gd := ev_mem 126 (by decide +kernel) rfl
theorem ev_w123 : (Jvm.Cond.methodLink "Factloom$Names" (15 : Nat) ({ cls := "Factloom$Names", name := "separate", desc := "()V" } : Jvm.MethodName)) ∈ ev_gd := ev_mem 123 (by decide +kernel) rfl
theorem ev_w124 : (Jvm.Cond.instanceMethod ({ cls := "Factloom$Names", name := "separate", desc := "()V" } : Jvm.MethodName)) ∈ ev_gd := ev_mem 124 (by decide +kernel) rfl
theorem ev_w125 : (Jvm.Cond.selects "Factloom$Names" ({ cls := "Factloom$Names", name := "separate", desc := "()V" } : Jvm.MethodName) ({ cls := "Factloom$Names", name := "separate", desc := "()V" } : Jvm.MethodName)) ∈ ev_gd := ev_mem 125 (by decide +kernel) rfl
theorem ev_w295 : (Jvm.Cond.methodLink "Factloom$Origins" (3 : Nat) ({ cls := "java/lang/Object", name := "<init>", desc := "()V" } : Jvm.MethodName)) ∈ ev_gd := ev_mem 295 (by decide +kernel) rfl
theorem ev_w296 : (Jvm.Cond.fieldLink "Factloom$Origins" (9 : Nat) "Factloom$Origins" "ways" "[I") ∈ ev_gd := ev_mem 296 (by decide +kernel) rfl
theorem ev_w298 : (Jvm.Cond.fieldLink "Factloom$Origins" (15 : Nat) "Factloom$Origins" "first" "[I") ∈ ev_gd := ev_mem 298 (by decide +kernel) rfl
theorem ev_w300 : (Jvm.Cond.fieldLink "Factloom$Origins" (18 : Nat) "Factloom$Origins" "merit" "[I") ∈ ev_gd := ev_mem 300 (by decide +kernel) rfl
theorem ev_w314 : (Jvm.Cond.methodLink "Factloom$Question" (3 : Nat) ({ cls := "java/lang/Object", name := "<init>", desc := "()V" } : Jvm.MethodName)) ∈ ev_gd := ev_mem 314 (by decide +kernel) rfl
theorem ev_w317 : (Jvm.Cond.fieldLink "Factloom$Question" (9 : Nat) "Factloom$Question" "patterns" "[I") ∈ ev_gd := ev_mem 317 (by decide +kernel) rfl
theorem ev_w318 : (Jvm.Cond.fieldLink "Factloom$Question" (15 : Nat) "Factloom$Question" "sizes" "[I") ∈ ev_gd := ev_mem 318 (by decide +kernel) rfl
theorem ev_w319 : (Jvm.Cond.fieldLink "Factloom$Question" (18 : Nat) "Factloom$Question" "found" "[I") ∈ ev_gd := ev_mem 319 (by decide +kernel) rfl
theorem ev_w315 : (Jvm.Cond.classLink "Factloom$Question" (21 : Nat) "Factloom$Binding") ∈ ev_gd := ev_mem 315 (by decide +kernel) rfl
theorem ev_w316 : (Jvm.Cond.methodLinkNest "Factloom$Question" (23 : Nat) ({ cls := "Factloom$Binding", name := "<init>", desc := "()V" } : Jvm.MethodName) "Factloom") ∈ ev_nw := ev_memN 316 (by decide +kernel) rfl
theorem ev_w321 : (Jvm.Cond.fieldLink "Factloom$Question" (24 : Nat) "Factloom$Question" "outer" "LFactloom$Binding;") ∈ ev_gd := ev_mem 321 (by decide +kernel) rfl
theorem ev_w322 : (Jvm.Cond.fieldLink "Factloom$Question" (28 : Nat) "Factloom$Question" "inner" "LFactloom$Binding;") ∈ ev_gd := ev_mem 322 (by decide +kernel) rfl
theorem ev_w326 : (Jvm.Cond.fieldLink "Factloom$Question" (31 : Nat) "Factloom$Question" "notPattern" "I") ∈ ev_gd := ev_mem 326 (by decide +kernel) rfl
theorem ev_w680 : (Jvm.Cond.code ({ cls := "Factloom$Rows", name := "openRowOf", desc := "(I)I" } : Jvm.MethodName) prog_9_method_7_code (3 : Nat) (Option.some Jvm.ClassFile.FieldType.int)) ∈ ev_gd := ev_mem 680 (by decide +kernel) rfl
theorem ev_w677 : (Jvm.Cond.methodLink "Factloom$Rows" (66 : Nat) ({ cls := "Factloom$Rows", name := "openRowOf", desc := "(I)I" } : Jvm.MethodName)) ∈ ev_gd := ev_mem 677 (by decide +kernel) rfl
theorem ev_w679 : (Jvm.Cond.instanceMethod ({ cls := "Factloom$Rows", name := "openRowOf", desc := "(I)I" } : Jvm.MethodName)) ∈ ev_gd := ev_mem 679 (by decide +kernel) rfl
theorem ev_w22 : (Cond.selects "Factloom$Rows" ⟨"Factloom$Rows", "openRowOf", "(I)I"⟩ ⟨"Factloom$Rows", "openRowOf", "(I)I"⟩) ∈ ev_gd := ev_mem 22 (by decide +kernel) rfl
theorem ev_w167 : (Jvm.Cond.fieldLink "Factloom$Rows" (18 : Nat) "Factloom$Rows" "trusts" "[I") ∈ ev_gd := ev_mem 167 (by decide +kernel) rfl
theorem ev_w433 : (Jvm.Cond.methodLinkNest "Factloom$Rows" (35 : Nat) ({ cls := "Factloom", name := "at", desc := "([III)I" } : Jvm.MethodName) "Factloom") ∈ ev_nw := ev_memN 433 (by decide +kernel) rfl
theorem ev_w438 : (Jvm.Cond.methodLinkNest "Factloom$Rows" (45 : Nat) ({ cls := "Factloom", name := "put", desc := "([III)V" } : Jvm.MethodName) "Factloom") ∈ ev_nw := ev_memN 438 (by decide +kernel) rfl
theorem ev_w163 : (Jvm.Cond.fieldLink "Factloom$Rows" (11 : Nat) "Factloom$Rows" "triples" "[I") ∈ ev_gd := ev_mem 163 (by decide +kernel) rfl
theorem ev_w171 : (Jvm.Cond.fieldLink "Factloom$Rows" (27 : Nat) "Factloom$Rows" "count" "I") ∈ ev_gd := ev_mem 171 (by decide +kernel) rfl
theorem ev_w164 : (Jvm.Cond.fieldLink "Factloom$Rows" (15 : Nat) "Factloom$Rows" "heads" "[I") ∈ ev_gd := ev_mem 164 (by decide +kernel) rfl
theorem ev_w169 : (Jvm.Cond.fieldLink "Factloom$Rows" (21 : Nat) "Factloom$Rows" "since" "[I") ∈ ev_gd := ev_mem 169 (by decide +kernel) rfl
theorem ev_w170 : (Jvm.Cond.fieldLink "Factloom$Rows" (24 : Nat) "Factloom$Rows" "till" "[I") ∈ ev_gd := ev_mem 170 (by decide +kernel) rfl
theorem ev_w616 : (Jvm.Cond.code ({ cls := "Factloom", name := "copy", desc := "([I[II)V" } : Jvm.MethodName) prog_1_method_54_code (4 : Nat) (Option.none : Option Jvm.ClassFile.FieldType)) ∈ ev_gd := ev_mem 616 (by decide +kernel) rfl
theorem ev_w664 : (Jvm.Cond.methodLinkNest "Factloom$Rows" (31 : Nat) ({ cls := "Factloom", name := "copy", desc := "([I[II)V" } : Jvm.MethodName) "Factloom") ∈ ev_nw := ev_memN 664 (by decide +kernel) rfl
theorem ev_w615 : (Jvm.Cond.static ({ cls := "Factloom", name := "copy", desc := "([I[II)V" } : Jvm.MethodName)) ∈ ev_gd := ev_mem 615 (by decide +kernel) rfl
theorem ev_w463 : (Jvm.Cond.code ({ cls := "Factloom$Rows", name := "isOpen", desc := "(I)Z" } : Jvm.MethodName) prog_9_method_8_code (2 : Nat) (Option.some Jvm.ClassFile.FieldType.boolean)) ∈ ev_gd := ev_mem 463 (by decide +kernel) rfl
theorem ev_w460 : (Jvm.Cond.methodLink "Factloom$Rows" (62 : Nat) ({ cls := "Factloom$Rows", name := "isOpen", desc := "(I)Z" } : Jvm.MethodName)) ∈ ev_gd := ev_mem 460 (by decide +kernel) rfl
theorem ev_w461 : (Jvm.Cond.instanceMethod ({ cls := "Factloom$Rows", name := "isOpen", desc := "(I)Z" } : Jvm.MethodName)) ∈ ev_gd := ev_mem 461 (by decide +kernel) rfl
theorem ev_w462 : (Jvm.Cond.selects "Factloom$Rows" ({ cls := "Factloom$Rows", name := "isOpen", desc := "(I)Z" } : Jvm.MethodName) ({ cls := "Factloom$Rows", name := "isOpen", desc := "(I)Z" } : Jvm.MethodName)) ∈ ev_gd := ev_mem 462 (by decide +kernel) rfl
theorem ev_w162 : (Jvm.Cond.methodLink "Factloom$Rows" (3 : Nat) ({ cls := "java/lang/Object", name := "<init>", desc := "()V" } : Jvm.MethodName)) ∈ ev_gd := ev_mem 162 (by decide +kernel) rfl
theorem ev_w148 : (Jvm.Cond.fieldLinkNest "Factloom$Rows" (49 : Nat) "Factloom$Batch" "count" "I" "Factloom") ∈ ev_nw := ev_memN 148 (by decide +kernel) rfl
theorem ev_w144 : (Jvm.Cond.fieldLinkNest "Factloom$Rows" (52 : Nat) "Factloom$Batch" "triples" "[I" "Factloom") ∈ ev_nw := ev_memN 144 (by decide +kernel) rfl
theorem ev_w146 : (Jvm.Cond.fieldLinkNest "Factloom$Rows" (53 : Nat) "Factloom$Batch" "trusts" "[I" "Factloom") ∈ ev_nw := ev_memN 146 (by decide +kernel) rfl
theorem ev_w437 : (Jvm.Cond.code ({ cls := "Factloom$Names", name := "headsOf", desc := "(I)I" } : Jvm.MethodName) prog_6_method_6_code (2 : Nat) (Option.some Jvm.ClassFile.FieldType.int)) ∈ ev_gd := ev_mem 437 (by decide +kernel) rfl
theorem ev_w434 : (Jvm.Cond.methodLink "Factloom$Rows" (39 : Nat) ({ cls := "Factloom$Names", name := "headsOf", desc := "(I)I" } : Jvm.MethodName)) ∈ ev_gd := ev_mem 434 (by decide +kernel) rfl
theorem ev_w435 : (Jvm.Cond.instanceMethod ({ cls := "Factloom$Names", name := "headsOf", desc := "(I)I" } : Jvm.MethodName)) ∈ ev_gd := ev_mem 435 (by decide +kernel) rfl
theorem ev_w436 : (Jvm.Cond.selects "Factloom$Names" ({ cls := "Factloom$Names", name := "headsOf", desc := "(I)I" } : Jvm.MethodName) ({ cls := "Factloom$Names", name := "headsOf", desc := "(I)I" } : Jvm.MethodName)) ∈ ev_gd := ev_mem 436 (by decide +kernel) rfl
theorem ev_w672 : (Jvm.Cond.code ({ cls := "Factloom$Rows", name := "end", desc := "(II)V" } : Jvm.MethodName) prog_9_method_5_code (4 : Nat) (Option.none : Option Jvm.ClassFile.FieldType)) ∈ ev_gd := ev_mem 672 (by decide +kernel) rfl
theorem ev_w669 : (Jvm.Cond.methodLink "Factloom$Rows" (54 : Nat) ({ cls := "Factloom$Rows", name := "end", desc := "(II)V" } : Jvm.MethodName)) ∈ ev_gd := ev_mem 669 (by decide +kernel) rfl
theorem ev_w671 : (Jvm.Cond.instanceMethod ({ cls := "Factloom$Rows", name := "end", desc := "(II)V" } : Jvm.MethodName)) ∈ ev_gd := ev_mem 671 (by decide +kernel) rfl
theorem ev_w20 : (Cond.selects "Factloom$Rows" ⟨"Factloom$Rows", "end", "(II)V"⟩ ⟨"Factloom$Rows", "end", "(II)V"⟩) ∈ ev_gd := ev_mem 20 (by decide +kernel) rfl
theorem ev_w676 : (Jvm.Cond.code ({ cls := "Factloom$Rows", name := "begin", desc := "(IIII)V" } : Jvm.MethodName) prog_9_method_6_code (6 : Nat) (Option.none : Option Jvm.ClassFile.FieldType)) ∈ ev_gd := ev_mem 676 (by decide +kernel) rfl
theorem ev_w673 : (Jvm.Cond.methodLink "Factloom$Rows" (58 : Nat) ({ cls := "Factloom$Rows", name := "begin", desc := "(IIII)V" } : Jvm.MethodName)) ∈ ev_gd := ev_mem 673 (by decide +kernel) rfl
theorem ev_w675 : (Jvm.Cond.instanceMethod ({ cls := "Factloom$Rows", name := "begin", desc := "(IIII)V" } : Jvm.MethodName)) ∈ ev_gd := ev_mem 675 (by decide +kernel) rfl
theorem ev_w21 : (Cond.selects "Factloom$Rows" ⟨"Factloom$Rows", "begin", "(IIII)V"⟩ ⟨"Factloom$Rows", "begin", "(IIII)V"⟩) ∈ ev_gd := ev_mem 21 (by decide +kernel) rfl
theorem ev_w203 : (Jvm.Cond.methodLink "Factloom$Rules" (3 : Nat) ({ cls := "java/lang/Object", name := "<init>", desc := "()V" } : Jvm.MethodName)) ∈ ev_gd := ev_mem 203 (by decide +kernel) rfl
theorem ev_w204 : (Jvm.Cond.fieldLink "Factloom$Rules" (9 : Nat) "Factloom$Rules" "made" "[I") ∈ ev_gd := ev_mem 204 (by decide +kernel) rfl
theorem ev_w206 : (Jvm.Cond.fieldLink "Factloom$Rules" (15 : Nat) "Factloom$Rules" "one" "[I") ∈ ev_gd := ev_mem 206 (by decide +kernel) rfl
theorem ev_w208 : (Jvm.Cond.fieldLink "Factloom$Rules" (18 : Nat) "Factloom$Rules" "other" "[I") ∈ ev_gd := ev_mem 208 (by decide +kernel) rfl
theorem ev_w691 : (Jvm.Cond.code ({ cls := "Factloom$ToldTable", name := "isBrokenFor", desc := "(ILFactloom$Names;)Z" } : Jvm.MethodName) prog_11_method_6_code (5 : Nat) (Option.some Jvm.ClassFile.FieldType.boolean)) ∈ ev_gd := ev_mem 691 (by decide +kernel) rfl
theorem ev_w688 : (Jvm.Cond.methodLink "Factloom$ToldTable" (49 : Nat) ({ cls := "Factloom$ToldTable", name := "isBrokenFor", desc := "(ILFactloom$Names;)Z" } : Jvm.MethodName)) ∈ ev_gd := ev_mem 688 (by decide +kernel) rfl
theorem ev_w690 : (Jvm.Cond.instanceMethod ({ cls := "Factloom$ToldTable", name := "isBrokenFor", desc := "(ILFactloom$Names;)Z" } : Jvm.MethodName)) ∈ ev_gd := ev_mem 690 (by decide +kernel) rfl
theorem ev_w23 : (Cond.selects "Factloom$ToldTable" ⟨"Factloom$ToldTable", "isBrokenFor", "(ILFactloom$Names;)Z"⟩ ⟨"Factloom$ToldTable", "isBrokenFor", "(ILFactloom$Names;)Z"⟩) ∈ ev_gd := ev_mem 23 (by decide +kernel) rfl
theorem ev_w194 : (Jvm.Cond.fieldLink "Factloom$ToldTable" (9 : Nat) "Factloom$ToldTable" "thirds" "[I") ∈ ev_gd := ev_mem 194 (by decide +kernel) rfl
theorem ev_w455 : (Jvm.Cond.code ({ cls := "Factloom", name := "fill", desc := "([II)V" } : Jvm.MethodName) prog_1_method_53_code (3 : Nat) (Option.none : Option Jvm.ClassFile.FieldType)) ∈ ev_gd := ev_mem 455 (by decide +kernel) rfl
theorem ev_w453 : (Jvm.Cond.methodLinkNest "Factloom$ToldTable" (15 : Nat) ({ cls := "Factloom", name := "fill", desc := "([II)V" } : Jvm.MethodName) "Factloom") ∈ ev_nw := ev_memN 453 (by decide +kernel) rfl
theorem ev_w454 : (Jvm.Cond.static ({ cls := "Factloom", name := "fill", desc := "([II)V" } : Jvm.MethodName)) ∈ ev_gd := ev_mem 454 (by decide +kernel) rfl
theorem ev_w172 : (Jvm.Cond.fieldLinkNest "Factloom$ToldTable" (19 : Nat) "Factloom$Rows" "count" "I" "Factloom") ∈ ev_nw := ev_memN 172 (by decide +kernel) rfl
theorem ev_w459 : (Jvm.Cond.code ({ cls := "Factloom$Rows", name := "holdsIn", desc := "(II)Z" } : Jvm.MethodName) prog_9_method_9_code (3 : Nat) (Option.some Jvm.ClassFile.FieldType.boolean)) ∈ ev_gd := ev_mem 459 (by decide +kernel) rfl
theorem ev_w456 : (Jvm.Cond.methodLink "Factloom$ToldTable" (25 : Nat) ({ cls := "Factloom$Rows", name := "holdsIn", desc := "(II)Z" } : Jvm.MethodName)) ∈ ev_gd := ev_mem 456 (by decide +kernel) rfl
theorem ev_w457 : (Jvm.Cond.instanceMethod ({ cls := "Factloom$Rows", name := "holdsIn", desc := "(II)Z" } : Jvm.MethodName)) ∈ ev_gd := ev_mem 457 (by decide +kernel) rfl
theorem ev_w458 : (Jvm.Cond.selects "Factloom$Rows" ({ cls := "Factloom$Rows", name := "holdsIn", desc := "(II)Z" } : Jvm.MethodName) ({ cls := "Factloom$Rows", name := "holdsIn", desc := "(II)Z" } : Jvm.MethodName)) ∈ ev_gd := ev_mem 458 (by decide +kernel) rfl
theorem ev_w165 : (Jvm.Cond.fieldLinkNest "Factloom$ToldTable" (29 : Nat) "Factloom$Rows" "heads" "[I" "Factloom") ∈ ev_nw := ev_memN 165 (by decide +kernel) rfl
theorem ev_w464 : (Jvm.Cond.methodLinkNest "Factloom$ToldTable" (32 : Nat) ({ cls := "Factloom", name := "at", desc := "([III)I" } : Jvm.MethodName) "Factloom") ∈ ev_nw := ev_memN 464 (by decide +kernel) rfl
theorem ev_w465 : (Jvm.Cond.methodLinkNest "Factloom$ToldTable" (36 : Nat) ({ cls := "Factloom", name := "put", desc := "([III)V" } : Jvm.MethodName) "Factloom") ∈ ev_nw := ev_memN 465 (by decide +kernel) rfl
theorem ev_w193 : (Jvm.Cond.methodLink "Factloom$ToldTable" (3 : Nat) ({ cls := "java/lang/Object", name := "<init>", desc := "()V" } : Jvm.MethodName)) ∈ ev_gd := ev_mem 193 (by decide +kernel) rfl
theorem ev_w692 : (Jvm.Cond.methodLink "Factloom$ToldTable" (53 : Nat) ({ cls := "Factloom$Names", name := "headOf", desc := "(I)I" } : Jvm.MethodName)) ∈ ev_gd := ev_mem 692 (by decide +kernel) rfl
theorem ev_w129 : (Jvm.Cond.fieldLinkNest "Factloom$ToldTable" (58 : Nat) "Factloom$Names" "singles" "I" "Factloom") ∈ ev_nw := ev_memN 129 (by decide +kernel) rfl
theorem ev_w510 : (Jvm.Cond.code ({ cls := "Factloom", name := "isIn", desc := "(II)Z" } : Jvm.MethodName) prog_1_method_55_code (2 : Nat) (Option.some Jvm.ClassFile.FieldType.boolean)) ∈ ev_gd := ev_mem 510 (by decide +kernel) rfl
theorem ev_w537 : (Jvm.Cond.methodLinkNest "Factloom$ToldTable" (40 : Nat) ({ cls := "Factloom", name := "isIn", desc := "(II)Z" } : Jvm.MethodName) "Factloom") ∈ ev_nw := ev_memN 537 (by decide +kernel) rfl
theorem ev_w509 : (Jvm.Cond.static ({ cls := "Factloom", name := "isIn", desc := "(II)Z" } : Jvm.MethodName)) ∈ ev_gd := ev_mem 509 (by decide +kernel) rfl
theorem ev_dn0 : ((⟨"java/lang/Math", "max", "(II)I"⟩ : MethodName)).cls ≠ "java/lang/invoke/MethodHandle" ∧ ((⟨"java/lang/Math", "max", "(II)I"⟩ : MethodName)).cls ≠ "java/lang/invoke/VarHandle" ∧ (parseMethodDescriptor ((⟨"java/lang/Math", "max", "(II)I"⟩ : MethodName)).desc).map (fun d => d.parameters.length) = some 2 := ⟨by decide +kernel, by decide +kernel, by decide +kernel⟩
theorem ev_dn1 : (yJx35411_checkForComodification_da8c8).cls ≠ "java/lang/invoke/MethodHandle" ∧ (yJx35411_checkForComodification_da8c8).cls ≠ "java/lang/invoke/VarHandle" ∧ (parseMethodDescriptor (yJx35411_checkForComodification_da8c8).desc).map (fun d => d.parameters.length) = some 0 := ⟨by decide +kernel, by decide +kernel, by decide +kernel⟩
theorem ev_dn2 : (yJx35411_hasNext_aae02).cls ≠ "java/lang/invoke/MethodHandle" ∧ (yJx35411_hasNext_aae02).cls ≠ "java/lang/invoke/VarHandle" ∧ (parseMethodDescriptor (yJx35411_hasNext_aae02).desc).map (fun d => d.parameters.length) = some 0 := ⟨by decide +kernel, by decide +kernel, by decide +kernel⟩
theorem ev_dn3 : (yJx35411_init_45d68).cls ≠ "java/lang/invoke/MethodHandle" ∧ (yJx35411_init_45d68).cls ≠ "java/lang/invoke/VarHandle" ∧ (parseMethodDescriptor (yJx35411_init_45d68).desc).map (fun d => d.parameters.length) = some 1 := ⟨by decide +kernel, by decide +kernel, by decide +kernel⟩
theorem ev_dn4 : (yJx35411_next_0502b).cls ≠ "java/lang/invoke/MethodHandle" ∧ (yJx35411_next_0502b).cls ≠ "java/lang/invoke/VarHandle" ∧ (parseMethodDescriptor (yJx35411_next_0502b).desc).map (fun d => d.parameters.length) = some 0 := ⟨by decide +kernel, by decide +kernel, by decide +kernel⟩
theorem ev_dn5 : (yJx4a65c_add_72be8).cls ≠ "java/lang/invoke/MethodHandle" ∧ (yJx4a65c_add_72be8).cls ≠ "java/lang/invoke/VarHandle" ∧ (parseMethodDescriptor (yJx4a65c_add_72be8).desc).map (fun d => d.parameters.length) = some 3 := ⟨by decide +kernel, by decide +kernel, by decide +kernel⟩
theorem ev_dn6 : (yJx4a65c_add_9ea2d).cls ≠ "java/lang/invoke/MethodHandle" ∧ (yJx4a65c_add_9ea2d).cls ≠ "java/lang/invoke/VarHandle" ∧ (parseMethodDescriptor (yJx4a65c_add_9ea2d).desc).map (fun d => d.parameters.length) = some 1 := ⟨by decide +kernel, by decide +kernel, by decide +kernel⟩
theorem ev_dn7 : (yJx4a65c_clear_da8c8).cls ≠ "java/lang/invoke/MethodHandle" ∧ (yJx4a65c_clear_da8c8).cls ≠ "java/lang/invoke/VarHandle" ∧ (parseMethodDescriptor (yJx4a65c_clear_da8c8).desc).map (fun d => d.parameters.length) = some 0 := ⟨by decide +kernel, by decide +kernel, by decide +kernel⟩
theorem ev_dn8 : (yJx4a65c_grow_92f84).cls ≠ "java/lang/invoke/MethodHandle" ∧ (yJx4a65c_grow_92f84).cls ≠ "java/lang/invoke/VarHandle" ∧ (parseMethodDescriptor (yJx4a65c_grow_92f84).desc).map (fun d => d.parameters.length) = some 1 := ⟨by decide +kernel, by decide +kernel, by decide +kernel⟩
theorem ev_dn9 : (yJx4a65c_grow_d5877).cls ≠ "java/lang/invoke/MethodHandle" ∧ (yJx4a65c_grow_d5877).cls ≠ "java/lang/invoke/VarHandle" ∧ (parseMethodDescriptor (yJx4a65c_grow_d5877).desc).map (fun d => d.parameters.length) = some 0 := ⟨by decide +kernel, by decide +kernel, by decide +kernel⟩
theorem ev_dn10 : (yJx4a65c_init_da8c8).cls ≠ "java/lang/invoke/MethodHandle" ∧ (yJx4a65c_init_da8c8).cls ≠ "java/lang/invoke/VarHandle" ∧ (parseMethodDescriptor (yJx4a65c_init_da8c8).desc).map (fun d => d.parameters.length) = some 0 := ⟨by decide +kernel, by decide +kernel, by decide +kernel⟩
theorem ev_dn11 : (yJx4a65c_iterator_32c93).cls ≠ "java/lang/invoke/MethodHandle" ∧ (yJx4a65c_iterator_32c93).cls ≠ "java/lang/invoke/VarHandle" ∧ (parseMethodDescriptor (yJx4a65c_iterator_32c93).desc).map (fun d => d.parameters.length) = some 0 := ⟨by decide +kernel, by decide +kernel, by decide +kernel⟩
theorem ev_dn12 : (yJx4a65c_size_8abf5).cls ≠ "java/lang/invoke/MethodHandle" ∧ (yJx4a65c_size_8abf5).cls ≠ "java/lang/invoke/VarHandle" ∧ (parseMethodDescriptor (yJx4a65c_size_8abf5).desc).map (fun d => d.parameters.length) = some 0 := ⟨by decide +kernel, by decide +kernel, by decide +kernel⟩
theorem ev_dn13 : (yJxa1e45_init_da8c8).cls ≠ "java/lang/invoke/MethodHandle" ∧ (yJxa1e45_init_da8c8).cls ≠ "java/lang/invoke/VarHandle" ∧ (parseMethodDescriptor (yJxa1e45_init_da8c8).desc).map (fun d => d.parameters.length) = some 0 := ⟨by decide +kernel, by decide +kernel, by decide +kernel⟩
theorem ev_dn14 : (yJxc12de_init_da8c8).cls ≠ "java/lang/invoke/MethodHandle" ∧ (yJxc12de_init_da8c8).cls ≠ "java/lang/invoke/VarHandle" ∧ (parseMethodDescriptor (yJxc12de_init_da8c8).desc).map (fun d => d.parameters.length) = some 0 := ⟨by decide +kernel, by decide +kernel, by decide +kernel⟩
theorem ev_dn15 : (yL_commit).cls ≠ "java/lang/invoke/MethodHandle" ∧ (yL_commit).cls ≠ "java/lang/invoke/VarHandle" ∧ (parseMethodDescriptor (yL_commit).desc).map (fun d => d.parameters.length) = some 2 := ⟨by decide +kernel, by decide +kernel, by decide +kernel⟩
theorem ev_dn16 : (yL_law).cls ≠ "java/lang/invoke/MethodHandle" ∧ (yL_law).cls ≠ "java/lang/invoke/VarHandle" ∧ (parseMethodDescriptor (yL_law).desc).map (fun d => d.parameters.length) = some 1 := ⟨by decide +kernel, by decide +kernel, by decide +kernel⟩
theorem ev_dn17 : (yL_tell).cls ≠ "java/lang/invoke/MethodHandle" ∧ (yL_tell).cls ≠ "java/lang/invoke/VarHandle" ∧ (parseMethodDescriptor (yL_tell).desc).map (fun d => d.parameters.length) = some 4 := ⟨by decide +kernel, by decide +kernel, by decide +kernel⟩
theorem ev_dn18 : (yL_unsay).cls ≠ "java/lang/invoke/MethodHandle" ∧ (yL_unsay).cls ≠ "java/lang/invoke/VarHandle" ∧ (parseMethodDescriptor (yL_unsay).desc).map (fun d => d.parameters.length) = some 3 := ⟨by decide +kernel, by decide +kernel, by decide +kernel⟩
theorem ev_dn19 : (yX0_add).cls ≠ "java/lang/invoke/MethodHandle" ∧ (yX0_add).cls ≠ "java/lang/invoke/VarHandle" ∧ (parseMethodDescriptor (yX0_add).desc).map (fun d => d.parameters.length) = some 2 := ⟨by decide +kernel, by decide +kernel, by decide +kernel⟩
theorem ev_dn20 : (yX0_empty).cls ≠ "java/lang/invoke/MethodHandle" ∧ (yX0_empty).cls ≠ "java/lang/invoke/VarHandle" ∧ (parseMethodDescriptor (yX0_empty).desc).map (fun d => d.parameters.length) = some 0 := ⟨by decide +kernel, by decide +kernel, by decide +kernel⟩
theorem ev_dn21 : (yX0_init).cls ≠ "java/lang/invoke/MethodHandle" ∧ (yX0_init).cls ≠ "java/lang/invoke/VarHandle" ∧ (parseMethodDescriptor (yX0_init).desc).map (fun d => d.parameters.length) = some 0 := ⟨by decide +kernel, by decide +kernel, by decide +kernel⟩
theorem ev_dn22 : (yX10_at).cls ≠ "java/lang/invoke/MethodHandle" ∧ (yX10_at).cls ≠ "java/lang/invoke/VarHandle" ∧ (parseMethodDescriptor (yX10_at).desc).map (fun d => d.parameters.length) = some 3 := ⟨by decide +kernel, by decide +kernel, by decide +kernel⟩
theorem ev_dn23 : (yX10_broken).cls ≠ "java/lang/invoke/MethodHandle" ∧ (yX10_broken).cls ≠ "java/lang/invoke/VarHandle" ∧ (parseMethodDescriptor (yX10_broken).desc).map (fun d => d.parameters.length) = some 0 := ⟨by decide +kernel, by decide +kernel, by decide +kernel⟩
theorem ev_dn24 : (yX10_checkBatchRoom).cls ≠ "java/lang/invoke/MethodHandle" ∧ (yX10_checkBatchRoom).cls ≠ "java/lang/invoke/VarHandle" ∧ (parseMethodDescriptor (yX10_checkBatchRoom).desc).map (fun d => d.parameters.length) = some 0 := ⟨by decide +kernel, by decide +kernel, by decide +kernel⟩
theorem ev_dn25 : (yX10_checkTriple).cls ≠ "java/lang/invoke/MethodHandle" ∧ (yX10_checkTriple).cls ≠ "java/lang/invoke/VarHandle" ∧ (parseMethodDescriptor (yX10_checkTriple).desc).map (fun d => d.parameters.length) = some 1 := ⟨by decide +kernel, by decide +kernel, by decide +kernel⟩
theorem ev_dn26 : (yX10_commit).cls ≠ "java/lang/invoke/MethodHandle" ∧ (yX10_commit).cls ≠ "java/lang/invoke/VarHandle" ∧ (parseMethodDescriptor (yX10_commit).desc).map (fun d => d.parameters.length) = some 0 := ⟨by decide +kernel, by decide +kernel, by decide +kernel⟩
theorem ev_dn27 : (yX10_copy).cls ≠ "java/lang/invoke/MethodHandle" ∧ (yX10_copy).cls ≠ "java/lang/invoke/VarHandle" ∧ (parseMethodDescriptor (yX10_copy).desc).map (fun d => d.parameters.length) = some 3 := ⟨by decide +kernel, by decide +kernel, by decide +kernel⟩
theorem ev_dn28 : (yX10_fill).cls ≠ "java/lang/invoke/MethodHandle" ∧ (yX10_fill).cls ≠ "java/lang/invoke/VarHandle" ∧ (parseMethodDescriptor (yX10_fill).desc).map (fun d => d.parameters.length) = some 2 := ⟨by decide +kernel, by decide +kernel, by decide +kernel⟩
theorem ev_dn29 : (yX10_init).cls ≠ "java/lang/invoke/MethodHandle" ∧ (yX10_init).cls ≠ "java/lang/invoke/VarHandle" ∧ (parseMethodDescriptor (yX10_init).desc).map (fun d => d.parameters.length) = some 0 := ⟨by decide +kernel, by decide +kernel, by decide +kernel⟩
theorem ev_dn30 : (yX10_isIn).cls ≠ "java/lang/invoke/MethodHandle" ∧ (yX10_isIn).cls ≠ "java/lang/invoke/VarHandle" ∧ (parseMethodDescriptor (yX10_isIn).desc).map (fun d => d.parameters.length) = some 2 := ⟨by decide +kernel, by decide +kernel, by decide +kernel⟩
theorem ev_dn31 : (yX10_put).cls ≠ "java/lang/invoke/MethodHandle" ∧ (yX10_put).cls ≠ "java/lang/invoke/VarHandle" ∧ (parseMethodDescriptor (yX10_put).desc).map (fun d => d.parameters.length) = some 3 := ⟨by decide +kernel, by decide +kernel, by decide +kernel⟩
theorem ev_dn32 : (yX10_tell).cls ≠ "java/lang/invoke/MethodHandle" ∧ (yX10_tell).cls ≠ "java/lang/invoke/VarHandle" ∧ (parseMethodDescriptor (yX10_tell).desc).map (fun d => d.parameters.length) = some 2 := ⟨by decide +kernel, by decide +kernel, by decide +kernel⟩
theorem ev_dn33 : (yX10_toldChanged).cls ≠ "java/lang/invoke/MethodHandle" ∧ (yX10_toldChanged).cls ≠ "java/lang/invoke/VarHandle" ∧ (parseMethodDescriptor (yX10_toldChanged).desc).map (fun d => d.parameters.length) = some 0 := ⟨by decide +kernel, by decide +kernel, by decide +kernel⟩
theorem ev_dn34 : (yX10_tryBatch).cls ≠ "java/lang/invoke/MethodHandle" ∧ (yX10_tryBatch).cls ≠ "java/lang/invoke/VarHandle" ∧ (parseMethodDescriptor (yX10_tryBatch).desc).map (fun d => d.parameters.length) = some 0 := ⟨by decide +kernel, by decide +kernel, by decide +kernel⟩
theorem ev_dn35 : (yX10_unsay).cls ≠ "java/lang/invoke/MethodHandle" ∧ (yX10_unsay).cls ≠ "java/lang/invoke/VarHandle" ∧ (parseMethodDescriptor (yX10_unsay).desc).map (fun d => d.parameters.length) = some 1 := ⟨by decide +kernel, by decide +kernel, by decide +kernel⟩
theorem ev_dn36 : (yX11_init).cls ≠ "java/lang/invoke/MethodHandle" ∧ (yX11_init).cls ≠ "java/lang/invoke/VarHandle" ∧ (parseMethodDescriptor (yX11_init).desc).map (fun d => d.parameters.length) = some 0 := ⟨by decide +kernel, by decide +kernel, by decide +kernel⟩
theorem ev_dn37 : (yX12_holds).cls ≠ "java/lang/invoke/MethodHandle" ∧ (yX12_holds).cls ≠ "java/lang/invoke/VarHandle" ∧ (parseMethodDescriptor (yX12_holds).desc).map (fun d => d.parameters.length) = some 1 := ⟨by decide +kernel, by decide +kernel, by decide +kernel⟩
theorem ev_dn38 : (yX12_init).cls ≠ "java/lang/invoke/MethodHandle" ∧ (yX12_init).cls ≠ "java/lang/invoke/VarHandle" ∧ (parseMethodDescriptor (yX12_init).desc).map (fun d => d.parameters.length) = some 0 := ⟨by decide +kernel, by decide +kernel, by decide +kernel⟩
theorem ev_dn39 : (yX13_broken).cls ≠ "java/lang/invoke/MethodHandle" ∧ (yX13_broken).cls ≠ "java/lang/invoke/VarHandle" ∧ (parseMethodDescriptor (yX13_broken).desc).map (fun d => d.parameters.length) = some 2 := ⟨by decide +kernel, by decide +kernel, by decide +kernel⟩
theorem ev_dn40 : (yX13_broken_).cls ≠ "java/lang/invoke/MethodHandle" ∧ (yX13_broken_).cls ≠ "java/lang/invoke/VarHandle" ∧ (parseMethodDescriptor (yX13_broken_).desc).map (fun d => d.parameters.length) = some 0 := ⟨by decide +kernel, by decide +kernel, by decide +kernel⟩
theorem ev_dn41 : (yX13_commit).cls ≠ "java/lang/invoke/MethodHandle" ∧ (yX13_commit).cls ≠ "java/lang/invoke/VarHandle" ∧ (parseMethodDescriptor (yX13_commit).desc).map (fun d => d.parameters.length) = some 0 := ⟨by decide +kernel, by decide +kernel, by decide +kernel⟩
theorem ev_dn42 : (yX13_committed).cls ≠ "java/lang/invoke/MethodHandle" ∧ (yX13_committed).cls ≠ "java/lang/invoke/VarHandle" ∧ (parseMethodDescriptor (yX13_committed).desc).map (fun d => d.parameters.length) = some 0 := ⟨by decide +kernel, by decide +kernel, by decide +kernel⟩
theorem ev_dn43 : (yX13_digit).cls ≠ "java/lang/invoke/MethodHandle" ∧ (yX13_digit).cls ≠ "java/lang/invoke/VarHandle" ∧ (parseMethodDescriptor (yX13_digit).desc).map (fun d => d.parameters.length) = some 2 := ⟨by decide +kernel, by decide +kernel, by decide +kernel⟩
theorem ev_dn44 : (yX13_forget).cls ≠ "java/lang/invoke/MethodHandle" ∧ (yX13_forget).cls ≠ "java/lang/invoke/VarHandle" ∧ (parseMethodDescriptor (yX13_forget).desc).map (fun d => d.parameters.length) = some 0 := ⟨by decide +kernel, by decide +kernel, by decide +kernel⟩
theorem ev_dn45 : (yX13_init).cls ≠ "java/lang/invoke/MethodHandle" ∧ (yX13_init).cls ≠ "java/lang/invoke/VarHandle" ∧ (parseMethodDescriptor (yX13_init).desc).map (fun d => d.parameters.length) = some 0 := ⟨by decide +kernel, by decide +kernel, by decide +kernel⟩
theorem ev_dn46 : (yX13_is).cls ≠ "java/lang/invoke/MethodHandle" ∧ (yX13_is).cls ≠ "java/lang/invoke/VarHandle" ∧ (parseMethodDescriptor (yX13_is).desc).map (fun d => d.parameters.length) = some 3 := ⟨by decide +kernel, by decide +kernel, by decide +kernel⟩
theorem ev_dn47 : (yX13_isTriple).cls ≠ "java/lang/invoke/MethodHandle" ∧ (yX13_isTriple).cls ≠ "java/lang/invoke/VarHandle" ∧ (parseMethodDescriptor (yX13_isTriple).desc).map (fun d => d.parameters.length) = some 1 := ⟨by decide +kernel, by decide +kernel, by decide +kernel⟩
theorem ev_dn48 : (yX13_newBinding).cls ≠ "java/lang/invoke/MethodHandle" ∧ (yX13_newBinding).cls ≠ "java/lang/invoke/VarHandle" ∧ (parseMethodDescriptor (yX13_newBinding).desc).map (fun d => d.parameters.length) = some 0 := ⟨by decide +kernel, by decide +kernel, by decide +kernel⟩
theorem ev_dn49 : (yX13_place).cls ≠ "java/lang/invoke/MethodHandle" ∧ (yX13_place).cls ≠ "java/lang/invoke/VarHandle" ∧ (parseMethodDescriptor (yX13_place).desc).map (fun d => d.parameters.length) = some 2 := ⟨by decide +kernel, by decide +kernel, by decide +kernel⟩
theorem ev_dn50 : (yX13_place_).cls ≠ "java/lang/invoke/MethodHandle" ∧ (yX13_place_).cls ≠ "java/lang/invoke/VarHandle" ∧ (parseMethodDescriptor (yX13_place_).desc).map (fun d => d.parameters.length) = some 1 := ⟨by decide +kernel, by decide +kernel, by decide +kernel⟩
theorem ev_dn51 : (yX13_tell).cls ≠ "java/lang/invoke/MethodHandle" ∧ (yX13_tell).cls ≠ "java/lang/invoke/VarHandle" ∧ (parseMethodDescriptor (yX13_tell).desc).map (fun d => d.parameters.length) = some 2 := ⟨by decide +kernel, by decide +kernel, by decide +kernel⟩
theorem ev_dn52 : (yX13_thrown).cls ≠ "java/lang/invoke/MethodHandle" ∧ (yX13_thrown).cls ≠ "java/lang/invoke/VarHandle" ∧ (parseMethodDescriptor (yX13_thrown).desc).map (fun d => d.parameters.length) = some 0 := ⟨by decide +kernel, by decide +kernel, by decide +kernel⟩
theorem ev_dn53 : (yX13_told).cls ≠ "java/lang/invoke/MethodHandle" ∧ (yX13_told).cls ≠ "java/lang/invoke/VarHandle" ∧ (parseMethodDescriptor (yX13_told).desc).map (fun d => d.parameters.length) = some 3 := ⟨by decide +kernel, by decide +kernel, by decide +kernel⟩
theorem ev_dn54 : (yX13_unsay).cls ≠ "java/lang/invoke/MethodHandle" ∧ (yX13_unsay).cls ≠ "java/lang/invoke/VarHandle" ∧ (parseMethodDescriptor (yX13_unsay).desc).map (fun d => d.parameters.length) = some 1 := ⟨by decide +kernel, by decide +kernel, by decide +kernel⟩
theorem ev_dn55 : (yX1_init).cls ≠ "java/lang/invoke/MethodHandle" ∧ (yX1_init).cls ≠ "java/lang/invoke/VarHandle" ∧ (parseMethodDescriptor (yX1_init).desc).map (fun d => d.parameters.length) = some 0 := ⟨by decide +kernel, by decide +kernel, by decide +kernel⟩
theorem ev_dn56 : (yX2_init).cls ≠ "java/lang/invoke/MethodHandle" ∧ (yX2_init).cls ≠ "java/lang/invoke/VarHandle" ∧ (parseMethodDescriptor (yX2_init).desc).map (fun d => d.parameters.length) = some 0 := ⟨by decide +kernel, by decide +kernel, by decide +kernel⟩
theorem ev_dn57 : (yX3_init).cls ≠ "java/lang/invoke/MethodHandle" ∧ (yX3_init).cls ≠ "java/lang/invoke/VarHandle" ∧ (parseMethodDescriptor (yX3_init).desc).map (fun d => d.parameters.length) = some 0 := ⟨by decide +kernel, by decide +kernel, by decide +kernel⟩
theorem ev_dn58 : (yX4_headOf).cls ≠ "java/lang/invoke/MethodHandle" ∧ (yX4_headOf).cls ≠ "java/lang/invoke/VarHandle" ∧ (parseMethodDescriptor (yX4_headOf).desc).map (fun d => d.parameters.length) = some 1 := ⟨by decide +kernel, by decide +kernel, by decide +kernel⟩
theorem ev_dn59 : (yX4_headsOf).cls ≠ "java/lang/invoke/MethodHandle" ∧ (yX4_headsOf).cls ≠ "java/lang/invoke/VarHandle" ∧ (parseMethodDescriptor (yX4_headsOf).desc).map (fun d => d.parameters.length) = some 1 := ⟨by decide +kernel, by decide +kernel, by decide +kernel⟩
theorem ev_dn60 : (yX4_init).cls ≠ "java/lang/invoke/MethodHandle" ∧ (yX4_init).cls ≠ "java/lang/invoke/VarHandle" ∧ (parseMethodDescriptor (yX4_init).desc).map (fun d => d.parameters.length) = some 0 := ⟨by decide +kernel, by decide +kernel, by decide +kernel⟩
theorem ev_dn61 : (yX4_separate).cls ≠ "java/lang/invoke/MethodHandle" ∧ (yX4_separate).cls ≠ "java/lang/invoke/VarHandle" ∧ (parseMethodDescriptor (yX4_separate).desc).map (fun d => d.parameters.length) = some 0 := ⟨by decide +kernel, by decide +kernel, by decide +kernel⟩
theorem ev_dn62 : (yX5_init).cls ≠ "java/lang/invoke/MethodHandle" ∧ (yX5_init).cls ≠ "java/lang/invoke/VarHandle" ∧ (parseMethodDescriptor (yX5_init).desc).map (fun d => d.parameters.length) = some 0 := ⟨by decide +kernel, by decide +kernel, by decide +kernel⟩
theorem ev_dn63 : (yX6_init).cls ≠ "java/lang/invoke/MethodHandle" ∧ (yX6_init).cls ≠ "java/lang/invoke/VarHandle" ∧ (parseMethodDescriptor (yX6_init).desc).map (fun d => d.parameters.length) = some 0 := ⟨by decide +kernel, by decide +kernel, by decide +kernel⟩
theorem ev_dn64 : (yX7_begin).cls ≠ "java/lang/invoke/MethodHandle" ∧ (yX7_begin).cls ≠ "java/lang/invoke/VarHandle" ∧ (parseMethodDescriptor (yX7_begin).desc).map (fun d => d.parameters.length) = some 4 := ⟨by decide +kernel, by decide +kernel, by decide +kernel⟩
theorem ev_dn65 : (yX7_copyFrom).cls ≠ "java/lang/invoke/MethodHandle" ∧ (yX7_copyFrom).cls ≠ "java/lang/invoke/VarHandle" ∧ (parseMethodDescriptor (yX7_copyFrom).desc).map (fun d => d.parameters.length) = some 1 := ⟨by decide +kernel, by decide +kernel, by decide +kernel⟩
theorem ev_dn66 : (yX7_end).cls ≠ "java/lang/invoke/MethodHandle" ∧ (yX7_end).cls ≠ "java/lang/invoke/VarHandle" ∧ (parseMethodDescriptor (yX7_end).desc).map (fun d => d.parameters.length) = some 2 := ⟨by decide +kernel, by decide +kernel, by decide +kernel⟩
theorem ev_dn67 : (yX7_holdsIn).cls ≠ "java/lang/invoke/MethodHandle" ∧ (yX7_holdsIn).cls ≠ "java/lang/invoke/VarHandle" ∧ (parseMethodDescriptor (yX7_holdsIn).desc).map (fun d => d.parameters.length) = some 2 := ⟨by decide +kernel, by decide +kernel, by decide +kernel⟩
theorem ev_dn68 : (yX7_init).cls ≠ "java/lang/invoke/MethodHandle" ∧ (yX7_init).cls ≠ "java/lang/invoke/VarHandle" ∧ (parseMethodDescriptor (yX7_init).desc).map (fun d => d.parameters.length) = some 0 := ⟨by decide +kernel, by decide +kernel, by decide +kernel⟩
theorem ev_dn69 : (yX7_isOpen).cls ≠ "java/lang/invoke/MethodHandle" ∧ (yX7_isOpen).cls ≠ "java/lang/invoke/VarHandle" ∧ (parseMethodDescriptor (yX7_isOpen).desc).map (fun d => d.parameters.length) = some 1 := ⟨by decide +kernel, by decide +kernel, by decide +kernel⟩
theorem ev_dn70 : (yX7_openRowOf).cls ≠ "java/lang/invoke/MethodHandle" ∧ (yX7_openRowOf).cls ≠ "java/lang/invoke/VarHandle" ∧ (parseMethodDescriptor (yX7_openRowOf).desc).map (fun d => d.parameters.length) = some 1 := ⟨by decide +kernel, by decide +kernel, by decide +kernel⟩
theorem ev_dn71 : (yX7_take).cls ≠ "java/lang/invoke/MethodHandle" ∧ (yX7_take).cls ≠ "java/lang/invoke/VarHandle" ∧ (parseMethodDescriptor (yX7_take).desc).map (fun d => d.parameters.length) = some 3 := ⟨by decide +kernel, by decide +kernel, by decide +kernel⟩
theorem ev_dn72 : (yX8_init).cls ≠ "java/lang/invoke/MethodHandle" ∧ (yX8_init).cls ≠ "java/lang/invoke/VarHandle" ∧ (parseMethodDescriptor (yX8_init).desc).map (fun d => d.parameters.length) = some 0 := ⟨by decide +kernel, by decide +kernel, by decide +kernel⟩
theorem ev_dn73 : (yX9_brokenHeads).cls ≠ "java/lang/invoke/MethodHandle" ∧ (yX9_brokenHeads).cls ≠ "java/lang/invoke/VarHandle" ∧ (parseMethodDescriptor (yX9_brokenHeads).desc).map (fun d => d.parameters.length) = some 1 := ⟨by decide +kernel, by decide +kernel, by decide +kernel⟩
theorem ev_dn74 : (yX9_gather).cls ≠ "java/lang/invoke/MethodHandle" ∧ (yX9_gather).cls ≠ "java/lang/invoke/VarHandle" ∧ (parseMethodDescriptor (yX9_gather).desc).map (fun d => d.parameters.length) = some 2 := ⟨by decide +kernel, by decide +kernel, by decide +kernel⟩
theorem ev_dn75 : (yX9_init).cls ≠ "java/lang/invoke/MethodHandle" ∧ (yX9_init).cls ≠ "java/lang/invoke/VarHandle" ∧ (parseMethodDescriptor (yX9_init).desc).map (fun d => d.parameters.length) = some 0 := ⟨by decide +kernel, by decide +kernel, by decide +kernel⟩
theorem ev_dn76 : (yX9_isBrokenFor).cls ≠ "java/lang/invoke/MethodHandle" ∧ (yX9_isBrokenFor).cls ≠ "java/lang/invoke/VarHandle" ∧ (parseMethodDescriptor (yX9_isBrokenFor).desc).map (fun d => d.parameters.length) = some 2 := ⟨by decide +kernel, by decide +kernel, by decide +kernel⟩
end
section
/-! each method's table: every operation is right at its place -/
set_option maxRecDepth 100000 in
theorem ev_s1 {l : Launch} {d : Nat} {cf : Nat → List Value → ev_W → Option ev_R} {p : Program} {e : Env} {R : Room} {s : State} {m : MethodId} {args : Array Value} {below : List Frame} {meth : Method} {c : Code} {Q : State → Prop} {D : va_G} {G : Nat → ClassId} {ad : Nat → Nat} {A : Nat → Prop} {z wE nE : Nat} {P : Nat → List Value → List Value → ev_W → Nat → Prop} {α : Type} {r : α} {fin : Option Value → ev_W → Nat → Option α} (X : ev_X cJx35411_checkForComodification_da8c8 1 yJx35411_checkForComodification_da8c8.cls none p s m args meth c D G ad A z) (hP : ev_PP p l e R s m args below meth c Q 1 D G ad A z wE nE P) (hR : wE - z ≤ R.cells ∧ nE ≤ R.slots) (hd2 : d + 1 ≤ R.frames ∧ 64 * (d + 1) ≤ R.locals) (hR1 : 1 ≤ R.frames) (hR2 : 21 ≤ R.locals) (hcf : ev_cf l ev_ys d cf) {Qc : Array Value → State → Outcome → State → Prop} (hQ : Q = MQ below Qc args s (wE - z) nE A) (hfin : ∀ v w n, fin v w n = some r → w.length = wE ∧ n = nE ∧ ∀ H locs, ev_H D G ad A w H → va_S A s.heap H locs → ∀ t : State, t.heap = H → s.WarmedH t.vm → Qc args s (.returned (v.map (ev_v ad))) t) : ev_all2 (ev_ok P r) 0 (ev_o1 cf fin) :=
  ev_b (
   ev_a (ok_ald_n X hP (by decide +kernel : decode cJx35411_checkForComodification_da8c8 0 = .ok (.aload_n 0, 1)) rfl rfl) <|
   ev_a (ok_get X hP (ci := 3) (kf := 3) (T := TJx35411) (by decide +kernel : decode cJx35411_checkForComodification_da8c8 1 = .ok (.getfield 1, 3)) rfl ev_in3 (by decide) ev_w1532 (Or.inl rfl) rfl) <|
   ev_a (ok_no) <|
   ev_a (ok_no) <|
   ev_a (ok_get X hP (ci := 4) (kf := 0) (T := TJx4a65c) (by decide +kernel : decode cJx35411_checkForComodification_da8c8 4 = .ok (.getfield 17, 3)) rfl ev_in4 (by decide) ev_w1373 (Or.inr ev_w1374) rfl) <|
   ev_a (ok_no) <|
   ev_a (ok_no) <|
   ev_a (ok_ald_n X hP (by decide +kernel : decode cJx35411_checkForComodification_da8c8 7 = .ok (.aload_n 0, 1)) rfl rfl) <|
   ev_a (ok_get X hP (ci := 3) (kf := 2) (T := TJx35411) (by decide +kernel : decode cJx35411_checkForComodification_da8c8 8 = .ok (.getfield 22, 3)) rfl ev_in3 (by decide) ev_w1531 (Or.inl rfl) rfl) <|
   ev_a (ok_no) <|
   ev_a (ok_no) <|
   ev_a (ok_icmp_eq X hP (by decide +kernel : decode cJx35411_checkForComodification_da8c8 11 = .ok (.if_icmp .eq 11, 3)) (by decide) rfl) <|
   ev_a (ok_no) <|
   ev_a (ok_no) <|
   ev_a (ok_no) <|
   ev_a (ok_no) <| ev_a0) <|
  ev_b (
   ev_a (ok_no) <|
   ev_a (ok_dup X hP (by decide +kernel : decode cJx35411_checkForComodification_da8c8 17 = .ok (.dup, 1)) rfl) <|
   ev_a (ok_no) <|
   ev_a (ok_no) <|
   ev_a (ok_no) <|
   ev_a (ok_no) <|
   ev_a (ok_return X hP hQ hfin rfl (by decide +kernel : decode cJx35411_checkForComodification_da8c8 22 = .ok (.return_, 1))) <| ev_a0) <|
  ev_b0
set_option maxRecDepth 100000 in
theorem ev_s2 {l : Launch} {d : Nat} {cf : Nat → List Value → ev_W → Option ev_R} {p : Program} {e : Env} {R : Room} {s : State} {m : MethodId} {args : Array Value} {below : List Frame} {meth : Method} {c : Code} {Q : State → Prop} {D : va_G} {G : Nat → ClassId} {ad : Nat → Nat} {A : Nat → Prop} {z wE nE : Nat} {P : Nat → List Value → List Value → ev_W → Nat → Prop} {α : Type} {r : α} {fin : Option Value → ev_W → Nat → Option α} (X : ev_X cJx35411_hasNext_aae02 1 yJx35411_hasNext_aae02.cls (some FieldType.boolean) p s m args meth c D G ad A z) (hP : ev_PP p l e R s m args below meth c Q 1 D G ad A z wE nE P) (hR : wE - z ≤ R.cells ∧ nE ≤ R.slots) (hd2 : d + 1 ≤ R.frames ∧ 64 * (d + 1) ≤ R.locals) (hR1 : 1 ≤ R.frames) (hR2 : 21 ≤ R.locals) (hcf : ev_cf l ev_ys d cf) {Qc : Array Value → State → Outcome → State → Prop} (hQ : Q = MQ below Qc args s (wE - z) nE A) (hfin : ∀ v w n, fin v w n = some r → w.length = wE ∧ n = nE ∧ ∀ H locs, ev_H D G ad A w H → va_S A s.heap H locs → ∀ t : State, t.heap = H → s.WarmedH t.vm → Qc args s (.returned (v.map (ev_v ad))) t) : ev_all2 (ev_ok P r) 0 (ev_o2 cf fin) :=
  ev_b (
   ev_a (ok_ald_n X hP (by decide +kernel : decode cJx35411_hasNext_aae02 0 = .ok (.aload_n 0, 1)) rfl rfl) <|
   ev_a (ok_get X hP (ci := 3) (kf := 0) (T := TJx35411) (by decide +kernel : decode cJx35411_hasNext_aae02 1 = .ok (.getfield 25, 3)) rfl ev_in3 (by decide) ev_w1529 (Or.inl rfl) rfl) <|
   ev_a (ok_no) <|
   ev_a (ok_no) <|
   ev_a (ok_ald_n X hP (by decide +kernel : decode cJx35411_hasNext_aae02 4 = .ok (.aload_n 0, 1)) rfl rfl) <|
   ev_a (ok_get X hP (ci := 3) (kf := 3) (T := TJx35411) (by decide +kernel : decode cJx35411_hasNext_aae02 5 = .ok (.getfield 1, 3)) rfl ev_in3 (by decide) ev_w1532 (Or.inl rfl) rfl) <|
   ev_a (ok_no) <|
   ev_a (ok_no) <|
   ev_a (ok_getN X hP (ci := 4) (kf := 2) (T := TJx4a65c) (by decide +kernel : decode cJx35411_hasNext_aae02 8 = .ok (.getfield 28, 3)) rfl ev_in4 (by decide) ev_w1370 (Or.inl rfl) rfl) <|
   ev_a (ok_no) <|
   ev_a (ok_no) <|
   ev_a (ok_icmp_eq X hP (by decide +kernel : decode cJx35411_hasNext_aae02 11 = .ok (.if_icmp .eq 7, 3)) (by decide) rfl) <|
   ev_a (ok_no) <|
   ev_a (ok_no) <|
   ev_a (ok_psh_iconst X hP (by decide +kernel : decode cJx35411_hasNext_aae02 14 = .ok (.iconst 1, 1)) rfl) <|
   ev_a (ok_jmp X hP (by decide +kernel : decode cJx35411_hasNext_aae02 15 = .ok (.goto 4, 3)) (by decide)) <| ev_a0) <|
  ev_b (
   ev_a (ok_no) <|
   ev_a (ok_no) <|
   ev_a (ok_psh_iconst X hP (by decide +kernel : decode cJx35411_hasNext_aae02 18 = .ok (.iconst 0, 1)) rfl) <|
   ev_a (ok_zreturn X hP hQ hfin rfl (by decide +kernel : decode cJx35411_hasNext_aae02 19 = .ok (.ireturn, 1))) <| ev_a0) <|
  ev_b0
set_option maxRecDepth 100000 in
theorem ev_s3 {l : Launch} {d : Nat} {cf : Nat → List Value → ev_W → Option ev_R} {p : Program} {e : Env} {R : Room} {s : State} {m : MethodId} {args : Array Value} {below : List Frame} {meth : Method} {c : Code} {Q : State → Prop} {D : va_G} {G : Nat → ClassId} {ad : Nat → Nat} {A : Nat → Prop} {z wE nE : Nat} {P : Nat → List Value → List Value → ev_W → Nat → Prop} {α : Type} {r : α} {fin : Option Value → ev_W → Nat → Option α} (X : ev_X cJx35411_init_45d68 2 yJx35411_init_45d68.cls none p s m args meth c D G ad A z) (hP : ev_PP p l e R s m args below meth c Q 2 D G ad A z wE nE P) (hR : wE - z ≤ R.cells ∧ nE ≤ R.slots) (hd2 : d + 1 ≤ R.frames ∧ 64 * (d + 1) ≤ R.locals) (hR1 : 1 ≤ R.frames) (hR2 : 21 ≤ R.locals) (hcf : ev_cf l ev_ys d cf) (hin2 : meth.name = "<init>") {Qc : Array Value → State → Outcome → State → Prop} (hQ : Q = MQ below Qc args s (wE - z) nE A) (hfin : ∀ v w n, fin v w n = some r → w.length = wE ∧ n = nE ∧ ∀ H locs, ev_H D G ad A w H → va_S A s.heap H locs → ∀ t : State, t.heap = H → s.WarmedH t.vm → Qc args s (.returned (v.map (ev_v ad))) t) : ev_all2 (ev_ok P r) 0 (ev_o3 cf fin) :=
  ev_b (
   ev_a (ok_ald_n X hP (by decide +kernel : decode cJx35411_init_45d68 0 = .ok (.aload_n 0, 1)) rfl rfl) <|
   ev_a (ok_ald_n X hP (by decide +kernel : decode cJx35411_init_45d68 1 = .ok (.aload_n 1, 1)) rfl rfl) <|
   ev_a (ok_putF X hP hin2 (ci := 3) (kf := 3) (T := TJx35411) tyJx35411 (by decide +kernel : decode cJx35411_init_45d68 2 = .ok (.putfield 1, 3)) rfl ev_in3 tyJx35411_ok nmJx35411 (by decide) ev_w1532 (Or.inl rfl) rfl rfl rfl rfl) <|
   ev_a (ok_no) <|
   ev_a (ok_no) <|
   ev_a (ok_ald_n X hP (by decide +kernel : decode cJx35411_init_45d68 5 = .ok (.aload_n 0, 1)) rfl rfl) <|
   ev_a (ok_obj X hP hR1 hR2 (by decide +kernel : decode cJx35411_init_45d68 6 = .ok (.invokespecial 7, 3)) ev_w1528 ev_w115 ev_w116 rfl) <|
   ev_a (ok_no) <|
   ev_a (ok_no) <|
   ev_a (ok_ald_n X hP (by decide +kernel : decode cJx35411_init_45d68 9 = .ok (.aload_n 0, 1)) rfl rfl) <|
   ev_a (ok_psh_iconst X hP (by decide +kernel : decode cJx35411_init_45d68 10 = .ok (.iconst (-1), 1)) rfl) <|
   ev_a (ok_put X hP (ci := 3) (kf := 1) (T := TJx35411) tyJx35411 (by decide +kernel : decode cJx35411_init_45d68 11 = .ok (.putfield 13, 3)) rfl ev_in3 tyJx35411_ok nmJx35411 (by decide) ev_w1530 (Or.inl rfl) rfl rfl rfl) <|
   ev_a (ok_no) <|
   ev_a (ok_no) <|
   ev_a (ok_ald_n X hP (by decide +kernel : decode cJx35411_init_45d68 14 = .ok (.aload_n 0, 1)) rfl rfl) <|
   ev_a (ok_ald_n X hP (by decide +kernel : decode cJx35411_init_45d68 15 = .ok (.aload_n 0, 1)) rfl rfl) <| ev_a0) <|
  ev_b (
   ev_a (ok_get X hP (ci := 3) (kf := 3) (T := TJx35411) (by decide +kernel : decode cJx35411_init_45d68 16 = .ok (.getfield 1, 3)) rfl ev_in3 (by decide) ev_w1532 (Or.inl rfl) rfl) <|
   ev_a (ok_no) <|
   ev_a (ok_no) <|
   ev_a (ok_get X hP (ci := 4) (kf := 0) (T := TJx4a65c) (by decide +kernel : decode cJx35411_init_45d68 19 = .ok (.getfield 17, 3)) rfl ev_in4 (by decide) ev_w1373 (Or.inr ev_w1374) rfl) <|
   ev_a (ok_no) <|
   ev_a (ok_no) <|
   ev_a (ok_put X hP (ci := 3) (kf := 2) (T := TJx35411) tyJx35411 (by decide +kernel : decode cJx35411_init_45d68 22 = .ok (.putfield 22, 3)) rfl ev_in3 tyJx35411_ok nmJx35411 (by decide) ev_w1531 (Or.inl rfl) rfl rfl rfl) <|
   ev_a (ok_no) <|
   ev_a (ok_no) <|
   ev_a (ok_return X hP hQ hfin rfl (by decide +kernel : decode cJx35411_init_45d68 25 = .ok (.return_, 1))) <| ev_a0) <|
  ev_b0
set_option maxRecDepth 100000 in
theorem ev_s4 {l : Launch} {d : Nat} {cf : Nat → List Value → ev_W → Option ev_R} {p : Program} {e : Env} {R : Room} {s : State} {m : MethodId} {args : Array Value} {below : List Frame} {meth : Method} {c : Code} {Q : State → Prop} {D : va_G} {G : Nat → ClassId} {ad : Nat → Nat} {A : Nat → Prop} {z wE nE : Nat} {P : Nat → List Value → List Value → ev_W → Nat → Prop} {α : Type} {r : α} {fin : Option Value → ev_W → Nat → Option α} (X : ev_X cJx35411_next_0502b 3 yJx35411_next_0502b.cls (some (FieldType.object "java/lang/Object")) p s m args meth c D G ad A z) (hP : ev_PP p l e R s m args below meth c Q 3 D G ad A z wE nE P) (hR : wE - z ≤ R.cells ∧ nE ≤ R.slots) (hd2 : d + 1 ≤ R.frames ∧ 64 * (d + 1) ≤ R.locals) (hR1 : 1 ≤ R.frames) (hR2 : 21 ≤ R.locals) (hcf : ev_cf l ev_ys d cf) {Qc : Array Value → State → Outcome → State → Prop} (hQ : Q = MQ below Qc args s (wE - z) nE A) (hfin : ∀ v w n, fin v w n = some r → w.length = wE ∧ n = nE ∧ ∀ H locs, ev_H D G ad A w H → va_S A s.heap H locs → ∀ t : State, t.heap = H → s.WarmedH t.vm → Qc args s (.returned (v.map (ev_v ad))) t) : ev_all2 (ev_ok P r) 0 (ev_o4 cf fin) :=
  ev_b (
   ev_a (ok_ald_n X hP (by decide +kernel : decode cJx35411_next_0502b 0 = .ok (.aload_n 0, 1)) rfl rfl) <|
   ev_a (ok_invV X hP hR hd2 hcf (ci := 3) ev_y1 rfl (by decide +kernel : decode cJx35411_next_0502b 1 = .ok (.invokevirtual 31, 3)) ev_w1564 ev_w1561 ev_w1562 ev_w1563 ev_w98 ⟨rfl, ev_dn1⟩ (by decide) rfl) <|
   ev_a (ok_no) <|
   ev_a (ok_no) <|
   ev_a (ok_ald_n X hP (by decide +kernel : decode cJx35411_next_0502b 4 = .ok (.aload_n 0, 1)) rfl rfl) <|
   ev_a (ok_get X hP (ci := 3) (kf := 0) (T := TJx35411) (by decide +kernel : decode cJx35411_next_0502b 5 = .ok (.getfield 25, 3)) rfl ev_in3 (by decide) ev_w1529 (Or.inl rfl) rfl) <|
   ev_a (ok_no) <|
   ev_a (ok_no) <|
   ev_a (ok_ist_n X hP (by decide +kernel : decode cJx35411_next_0502b 8 = .ok (.istore_n 1, 1)) rfl (by decide) rfl) <|
   ev_a (ok_ild_n X hP (by decide +kernel : decode cJx35411_next_0502b 9 = .ok (.iload_n 1, 1)) rfl rfl) <|
   ev_a (ok_ald_n X hP (by decide +kernel : decode cJx35411_next_0502b 10 = .ok (.aload_n 0, 1)) rfl rfl) <|
   ev_a (ok_get X hP (ci := 3) (kf := 3) (T := TJx35411) (by decide +kernel : decode cJx35411_next_0502b 11 = .ok (.getfield 1, 3)) rfl ev_in3 (by decide) ev_w1532 (Or.inl rfl) rfl) <|
   ev_a (ok_no) <|
   ev_a (ok_no) <|
   ev_a (ok_getN X hP (ci := 4) (kf := 2) (T := TJx4a65c) (by decide +kernel : decode cJx35411_next_0502b 14 = .ok (.getfield 28, 3)) rfl ev_in4 (by decide) ev_w1370 (Or.inl rfl) rfl) <|
   ev_a (ok_no) <| ev_a0) <|
  ev_b (
   ev_a (ok_no) <|
   ev_a (ok_icmp_lt X hP (by decide +kernel : decode cJx35411_next_0502b 17 = .ok (.if_icmp .lt 11, 3)) (by decide) rfl) <|
   ev_a (ok_no) <|
   ev_a (ok_no) <|
   ev_a (ok_no) <|
   ev_a (ok_no) <|
   ev_a (ok_no) <|
   ev_a (ok_dup X hP (by decide +kernel : decode cJx35411_next_0502b 23 = .ok (.dup, 1)) rfl) <|
   ev_a (ok_no) <|
   ev_a (ok_no) <|
   ev_a (ok_no) <|
   ev_a (ok_no) <|
   ev_a (ok_ald_n X hP (by decide +kernel : decode cJx35411_next_0502b 28 = .ok (.aload_n 0, 1)) rfl rfl) <|
   ev_a (ok_get X hP (ci := 3) (kf := 3) (T := TJx35411) (by decide +kernel : decode cJx35411_next_0502b 29 = .ok (.getfield 1, 3)) rfl ev_in3 (by decide) ev_w1532 (Or.inl rfl) rfl) <|
   ev_a (ok_no) <|
   ev_a (ok_no) <| ev_a0) <|
  ev_b (
   ev_a (ok_get X hP (ci := 4) (kf := 1) (T := TJx4a65c) (by decide +kernel : decode cJx35411_next_0502b 32 = .ok (.getfield 37, 3)) rfl ev_in4 (by decide) ev_w1369 (Or.inl rfl) rfl) <|
   ev_a (ok_no) <|
   ev_a (ok_no) <|
   ev_a (ok_ast_n X hP (by decide +kernel : decode cJx35411_next_0502b 35 = .ok (.astore_n 2, 1)) rfl (by decide) rfl) <|
   ev_a (ok_ild_n X hP (by decide +kernel : decode cJx35411_next_0502b 36 = .ok (.iload_n 1, 1)) rfl rfl) <|
   ev_a (ok_ald_n X hP (by decide +kernel : decode cJx35411_next_0502b 37 = .ok (.aload_n 2, 1)) rfl rfl) <|
   ev_a (ok_aln X hP (by decide +kernel : decode cJx35411_next_0502b 38 = .ok (.arraylength, 1)) rfl) <|
   ev_a (ok_icmp_lt X hP (by decide +kernel : decode cJx35411_next_0502b 39 = .ok (.if_icmp .lt 11, 3)) (by decide) rfl) <|
   ev_a (ok_no) <|
   ev_a (ok_no) <|
   ev_a (ok_no) <|
   ev_a (ok_no) <|
   ev_a (ok_no) <|
   ev_a (ok_dup X hP (by decide +kernel : decode cJx35411_next_0502b 45 = .ok (.dup, 1)) rfl) <|
   ev_a (ok_no) <|
   ev_a (ok_no) <| ev_a0) <|
  ev_b (
   ev_a (ok_no) <|
   ev_a (ok_no) <|
   ev_a (ok_ald_n X hP (by decide +kernel : decode cJx35411_next_0502b 50 = .ok (.aload_n 0, 1)) rfl rfl) <|
   ev_a (ok_ild_n X hP (by decide +kernel : decode cJx35411_next_0502b 51 = .ok (.iload_n 1, 1)) rfl rfl) <|
   ev_a (ok_psh_iconst X hP (by decide +kernel : decode cJx35411_next_0502b 52 = .ok (.iconst 1, 1)) rfl) <|
   ev_a (ok_iadd X hP (by decide +kernel : decode cJx35411_next_0502b 53 = .ok (.iadd, 1)) rfl) <|
   ev_a (ok_put X hP (ci := 3) (kf := 0) (T := TJx35411) tyJx35411 (by decide +kernel : decode cJx35411_next_0502b 54 = .ok (.putfield 25, 3)) rfl ev_in3 tyJx35411_ok nmJx35411 (by decide) ev_w1529 (Or.inl rfl) rfl rfl rfl) <|
   ev_a (ok_no) <|
   ev_a (ok_no) <|
   ev_a (ok_ald_n X hP (by decide +kernel : decode cJx35411_next_0502b 57 = .ok (.aload_n 2, 1)) rfl rfl) <|
   ev_a (ok_ald_n X hP (by decide +kernel : decode cJx35411_next_0502b 58 = .ok (.aload_n 0, 1)) rfl rfl) <|
   ev_a (ok_ild_n X hP (by decide +kernel : decode cJx35411_next_0502b 59 = .ok (.iload_n 1, 1)) rfl rfl) <|
   ev_a (ok_dx1 X hP (by decide +kernel : decode cJx35411_next_0502b 60 = .ok (.dup_x1, 1)) rfl) <|
   ev_a (ok_put X hP (ci := 3) (kf := 1) (T := TJx35411) tyJx35411 (by decide +kernel : decode cJx35411_next_0502b 61 = .ok (.putfield 13, 3)) rfl ev_in3 tyJx35411_ok nmJx35411 (by decide) ev_w1530 (Or.inl rfl) rfl rfl rfl) <|
   ev_a (ok_no) <|
   ev_a (ok_no) <| ev_a0) <|
  ev_b (
   ev_a (ok_aaloads X hP (by decide +kernel : decode cJx35411_next_0502b 64 = .ok (.aaload, 1)) rfl) <|
   ev_a (ok_areturn X hP hQ hfin rfl (Or.inl ⟨_, rfl⟩) (by decide +kernel : decode cJx35411_next_0502b 65 = .ok (.areturn, 1))) <| ev_a0) <|
  ev_b0
set_option maxRecDepth 100000 in
theorem ev_s5 {l : Launch} {d : Nat} {cf : Nat → List Value → ev_W → Option ev_R} {p : Program} {e : Env} {R : Room} {s : State} {m : MethodId} {args : Array Value} {below : List Frame} {meth : Method} {c : Code} {Q : State → Prop} {D : va_G} {G : Nat → ClassId} {ad : Nat → Nat} {A : Nat → Prop} {z wE nE : Nat} {P : Nat → List Value → List Value → ev_W → Nat → Prop} {α : Type} {r : α} {fin : Option Value → ev_W → Nat → Option α} (X : ev_X cJx4a65c_add_72be8 4 yJx4a65c_add_72be8.cls none p s m args meth c D G ad A z) (hP : ev_PP p l e R s m args below meth c Q 4 D G ad A z wE nE P) (hR : wE - z ≤ R.cells ∧ nE ≤ R.slots) (hd2 : d + 1 ≤ R.frames ∧ 64 * (d + 1) ≤ R.locals) (hR1 : 1 ≤ R.frames) (hR2 : 21 ≤ R.locals) (hcf : ev_cf l ev_ys d cf) {Qc : Array Value → State → Outcome → State → Prop} (hQ : Q = MQ below Qc args s (wE - z) nE A) (hfin : ∀ v w n, fin v w n = some r → w.length = wE ∧ n = nE ∧ ∀ H locs, ev_H D G ad A w H → va_S A s.heap H locs → ∀ t : State, t.heap = H → s.WarmedH t.vm → Qc args s (.returned (v.map (ev_v ad))) t) : ev_all2 (ev_ok P r) 0 (ev_o5 cf fin) :=
  ev_b (
   ev_a (ok_ild_n X hP (by decide +kernel : decode cJx4a65c_add_72be8 0 = .ok (.iload_n 3, 1)) rfl rfl) <|
   ev_a (ok_ald_n X hP (by decide +kernel : decode cJx4a65c_add_72be8 1 = .ok (.aload_n 2, 1)) rfl rfl) <|
   ev_a (ok_aln X hP (by decide +kernel : decode cJx4a65c_add_72be8 2 = .ok (.arraylength, 1)) rfl) <|
   ev_a (ok_icmp_ne X hP (by decide +kernel : decode cJx4a65c_add_72be8 3 = .ok (.if_icmp .ne 8, 3)) (by decide) rfl) <|
   ev_a (ok_no) <|
   ev_a (ok_no) <|
   ev_a (ok_ald_n X hP (by decide +kernel : decode cJx4a65c_add_72be8 6 = .ok (.aload_n 0, 1)) rfl rfl) <|
   ev_a (ok_invV X hP hR hd2 hcf (ci := 4) ev_y9 rfl (by decide +kernel : decode cJx4a65c_add_72be8 7 = .ok (.invokevirtual 129, 3)) ev_w1456 ev_w1453 ev_w1455 ev_w39 ev_w85 ⟨rfl, ev_dn9⟩ (by decide) rfl) <|
   ev_a (ok_no) <|
   ev_a (ok_no) <|
   ev_a (ok_ast_n X hP (by decide +kernel : decode cJx4a65c_add_72be8 10 = .ok (.astore_n 2, 1)) rfl (by decide) rfl) <|
   ev_a (ok_ald_n X hP (by decide +kernel : decode cJx4a65c_add_72be8 11 = .ok (.aload_n 2, 1)) rfl rfl) <|
   ev_a (ok_ild_n X hP (by decide +kernel : decode cJx4a65c_add_72be8 12 = .ok (.iload_n 3, 1)) rfl rfl) <|
   ev_a (ok_ald_n X hP (by decide +kernel : decode cJx4a65c_add_72be8 13 = .ok (.aload_n 1, 1)) rfl rfl) <|
   ev_a (ok_aastores X hP (ci := 17) (by decide +kernel : decode cJx4a65c_add_72be8 14 = .ok (.aastore, 1)) rfl ev_w1922 ev_w1930 rfl) <|
   ev_a (ok_ald_n X hP (by decide +kernel : decode cJx4a65c_add_72be8 15 = .ok (.aload_n 0, 1)) rfl rfl) <| ev_a0) <|
  ev_b (
   ev_a (ok_ild_n X hP (by decide +kernel : decode cJx4a65c_add_72be8 16 = .ok (.iload_n 3, 1)) rfl rfl) <|
   ev_a (ok_psh_iconst X hP (by decide +kernel : decode cJx4a65c_add_72be8 17 = .ok (.iconst 1, 1)) rfl) <|
   ev_a (ok_iadd X hP (by decide +kernel : decode cJx4a65c_add_72be8 18 = .ok (.iadd, 1)) rfl) <|
   ev_a (ok_put X hP (ci := 4) (kf := 2) (T := TJx4a65c) tyJx4a65c (by decide +kernel : decode cJx4a65c_add_72be8 19 = .ok (.putfield 48, 3)) rfl ev_in4 tyJx4a65c_ok nmJx4a65c (by decide) ev_w1371 (Or.inl rfl) rfl rfl rfl) <|
   ev_a (ok_no) <|
   ev_a (ok_no) <|
   ev_a (ok_return X hP hQ hfin rfl (by decide +kernel : decode cJx4a65c_add_72be8 22 = .ok (.return_, 1))) <| ev_a0) <|
  ev_b0
set_option maxRecDepth 100000 in
theorem ev_s6 {l : Launch} {d : Nat} {cf : Nat → List Value → ev_W → Option ev_R} {p : Program} {e : Env} {R : Room} {s : State} {m : MethodId} {args : Array Value} {below : List Frame} {meth : Method} {c : Code} {Q : State → Prop} {D : va_G} {G : Nat → ClassId} {ad : Nat → Nat} {A : Nat → Prop} {z wE nE : Nat} {P : Nat → List Value → List Value → ev_W → Nat → Prop} {α : Type} {r : α} {fin : Option Value → ev_W → Nat → Option α} (X : ev_X cJx4a65c_add_9ea2d 2 yJx4a65c_add_9ea2d.cls (some FieldType.boolean) p s m args meth c D G ad A z) (hP : ev_PP p l e R s m args below meth c Q 2 D G ad A z wE nE P) (hR : wE - z ≤ R.cells ∧ nE ≤ R.slots) (hd2 : d + 1 ≤ R.frames ∧ 64 * (d + 1) ≤ R.locals) (hR1 : 1 ≤ R.frames) (hR2 : 21 ≤ R.locals) (hcf : ev_cf l ev_ys d cf) {Qc : Array Value → State → Outcome → State → Prop} (hQ : Q = MQ below Qc args s (wE - z) nE A) (hfin : ∀ v w n, fin v w n = some r → w.length = wE ∧ n = nE ∧ ∀ H locs, ev_H D G ad A w H → va_S A s.heap H locs → ∀ t : State, t.heap = H → s.WarmedH t.vm → Qc args s (.returned (v.map (ev_v ad))) t) : ev_all2 (ev_ok P r) 0 (ev_o6 cf fin) :=
  ev_b (
   ev_a (ok_ald_n X hP (by decide +kernel : decode cJx4a65c_add_9ea2d 0 = .ok (.aload_n 0, 1)) rfl rfl) <|
   ev_a (ok_dup X hP (by decide +kernel : decode cJx4a65c_add_9ea2d 1 = .ok (.dup, 1)) rfl) <|
   ev_a (ok_get X hP (ci := 4) (kf := 0) (T := TJx4a65c) (by decide +kernel : decode cJx4a65c_add_9ea2d 2 = .ok (.getfield 63, 3)) rfl ev_in4 (by decide) ev_w1375 (Or.inr ev_w1374) rfl) <|
   ev_a (ok_no) <|
   ev_a (ok_no) <|
   ev_a (ok_psh_iconst X hP (by decide +kernel : decode cJx4a65c_add_9ea2d 5 = .ok (.iconst 1, 1)) rfl) <|
   ev_a (ok_iadd X hP (by decide +kernel : decode cJx4a65c_add_9ea2d 6 = .ok (.iadd, 1)) rfl) <|
   ev_a (ok_put X hP (ci := 4) (kf := 0) (T := TJx4a65c) tyJx4a65c (by decide +kernel : decode cJx4a65c_add_9ea2d 7 = .ok (.putfield 63, 3)) rfl ev_in4 tyJx4a65c_ok nmJx4a65c (by decide) ev_w1375 (Or.inr ev_w1374) rfl rfl rfl) <|
   ev_a (ok_no) <|
   ev_a (ok_no) <|
   ev_a (ok_ald_n X hP (by decide +kernel : decode cJx4a65c_add_9ea2d 10 = .ok (.aload_n 0, 1)) rfl rfl) <|
   ev_a (ok_ald_n X hP (by decide +kernel : decode cJx4a65c_add_9ea2d 11 = .ok (.aload_n 1, 1)) rfl rfl) <|
   ev_a (ok_ald_n X hP (by decide +kernel : decode cJx4a65c_add_9ea2d 12 = .ok (.aload_n 0, 1)) rfl rfl) <|
   ev_a (ok_get X hP (ci := 4) (kf := 1) (T := TJx4a65c) (by decide +kernel : decode cJx4a65c_add_9ea2d 13 = .ok (.getfield 9, 3)) rfl ev_in4 (by decide) ev_w1368 (Or.inl rfl) rfl) <|
   ev_a (ok_no) <|
   ev_a (ok_no) <| ev_a0) <|
  ev_b (
   ev_a (ok_ald_n X hP (by decide +kernel : decode cJx4a65c_add_9ea2d 16 = .ok (.aload_n 0, 1)) rfl rfl) <|
   ev_a (ok_get X hP (ci := 4) (kf := 2) (T := TJx4a65c) (by decide +kernel : decode cJx4a65c_add_9ea2d 17 = .ok (.getfield 48, 3)) rfl ev_in4 (by decide) ev_w1371 (Or.inl rfl) rfl) <|
   ev_a (ok_no) <|
   ev_a (ok_no) <|
   ev_a (ok_invV X hP hR hd2 hcf (ci := 4) ev_y5 rfl (by decide +kernel : decode cJx4a65c_add_9ea2d 20 = .ok (.invokevirtual 131, 3)) ev_w1452 ev_w1449 ev_w1451 ev_w38 ev_w85 ⟨rfl, ev_dn5⟩ (by decide) rfl) <|
   ev_a (ok_no) <|
   ev_a (ok_no) <|
   ev_a (ok_psh_iconst X hP (by decide +kernel : decode cJx4a65c_add_9ea2d 23 = .ok (.iconst 1, 1)) rfl) <|
   ev_a (ok_zreturn X hP hQ hfin rfl (by decide +kernel : decode cJx4a65c_add_9ea2d 24 = .ok (.ireturn, 1))) <| ev_a0) <|
  ev_b0
set_option maxRecDepth 100000 in
theorem ev_s7 {l : Launch} {d : Nat} {cf : Nat → List Value → ev_W → Option ev_R} {p : Program} {e : Env} {R : Room} {s : State} {m : MethodId} {args : Array Value} {below : List Frame} {meth : Method} {c : Code} {Q : State → Prop} {D : va_G} {G : Nat → ClassId} {ad : Nat → Nat} {A : Nat → Prop} {z wE nE : Nat} {P : Nat → List Value → List Value → ev_W → Nat → Prop} {α : Type} {r : α} {fin : Option Value → ev_W → Nat → Option α} (X : ev_X cJx4a65c_clear_da8c8 4 yJx4a65c_clear_da8c8.cls none p s m args meth c D G ad A z) (hP : ev_PP p l e R s m args below meth c Q 4 D G ad A z wE nE P) (hR : wE - z ≤ R.cells ∧ nE ≤ R.slots) (hd2 : d + 1 ≤ R.frames ∧ 64 * (d + 1) ≤ R.locals) (hR1 : 1 ≤ R.frames) (hR2 : 21 ≤ R.locals) (hcf : ev_cf l ev_ys d cf) {Qc : Array Value → State → Outcome → State → Prop} (hQ : Q = MQ below Qc args s (wE - z) nE A) (hfin : ∀ v w n, fin v w n = some r → w.length = wE ∧ n = nE ∧ ∀ H locs, ev_H D G ad A w H → va_S A s.heap H locs → ∀ t : State, t.heap = H → s.WarmedH t.vm → Qc args s (.returned (v.map (ev_v ad))) t) : ev_all2 (ev_ok P r) 0 (ev_o7 cf fin) :=
  ev_b (
   ev_a (ok_ald_n X hP (by decide +kernel : decode cJx4a65c_clear_da8c8 0 = .ok (.aload_n 0, 1)) rfl rfl) <|
   ev_a (ok_dup X hP (by decide +kernel : decode cJx4a65c_clear_da8c8 1 = .ok (.dup, 1)) rfl) <|
   ev_a (ok_get X hP (ci := 4) (kf := 0) (T := TJx4a65c) (by decide +kernel : decode cJx4a65c_clear_da8c8 2 = .ok (.getfield 63, 3)) rfl ev_in4 (by decide) ev_w1375 (Or.inr ev_w1374) rfl) <|
   ev_a (ok_no) <|
   ev_a (ok_no) <|
   ev_a (ok_psh_iconst X hP (by decide +kernel : decode cJx4a65c_clear_da8c8 5 = .ok (.iconst 1, 1)) rfl) <|
   ev_a (ok_iadd X hP (by decide +kernel : decode cJx4a65c_clear_da8c8 6 = .ok (.iadd, 1)) rfl) <|
   ev_a (ok_put X hP (ci := 4) (kf := 0) (T := TJx4a65c) tyJx4a65c (by decide +kernel : decode cJx4a65c_clear_da8c8 7 = .ok (.putfield 63, 3)) rfl ev_in4 tyJx4a65c_ok nmJx4a65c (by decide) ev_w1375 (Or.inr ev_w1374) rfl rfl rfl) <|
   ev_a (ok_no) <|
   ev_a (ok_no) <|
   ev_a (ok_ald_n X hP (by decide +kernel : decode cJx4a65c_clear_da8c8 10 = .ok (.aload_n 0, 1)) rfl rfl) <|
   ev_a (ok_get X hP (ci := 4) (kf := 1) (T := TJx4a65c) (by decide +kernel : decode cJx4a65c_clear_da8c8 11 = .ok (.getfield 9, 3)) rfl ev_in4 (by decide) ev_w1368 (Or.inl rfl) rfl) <|
   ev_a (ok_no) <|
   ev_a (ok_no) <|
   ev_a (ok_ast_n X hP (by decide +kernel : decode cJx4a65c_clear_da8c8 14 = .ok (.astore_n 1, 1)) rfl (by decide) rfl) <|
   ev_a (ok_ald_n X hP (by decide +kernel : decode cJx4a65c_clear_da8c8 15 = .ok (.aload_n 0, 1)) rfl rfl) <| ev_a0) <|
  ev_b (
   ev_a (ok_get X hP (ci := 4) (kf := 2) (T := TJx4a65c) (by decide +kernel : decode cJx4a65c_clear_da8c8 16 = .ok (.getfield 48, 3)) rfl ev_in4 (by decide) ev_w1371 (Or.inl rfl) rfl) <|
   ev_a (ok_no) <|
   ev_a (ok_no) <|
   ev_a (ok_ist_n X hP (by decide +kernel : decode cJx4a65c_clear_da8c8 19 = .ok (.istore_n 2, 1)) rfl (by decide) rfl) <|
   ev_a (ok_ald_n X hP (by decide +kernel : decode cJx4a65c_clear_da8c8 20 = .ok (.aload_n 0, 1)) rfl rfl) <|
   ev_a (ok_psh_iconst X hP (by decide +kernel : decode cJx4a65c_clear_da8c8 21 = .ok (.iconst 0, 1)) rfl) <|
   ev_a (ok_dx1 X hP (by decide +kernel : decode cJx4a65c_clear_da8c8 22 = .ok (.dup_x1, 1)) rfl) <|
   ev_a (ok_put X hP (ci := 4) (kf := 2) (T := TJx4a65c) tyJx4a65c (by decide +kernel : decode cJx4a65c_clear_da8c8 23 = .ok (.putfield 48, 3)) rfl ev_in4 tyJx4a65c_ok nmJx4a65c (by decide) ev_w1371 (Or.inl rfl) rfl rfl rfl) <|
   ev_a (ok_no) <|
   ev_a (ok_no) <|
   ev_a (ok_ist_n X hP (by decide +kernel : decode cJx4a65c_clear_da8c8 26 = .ok (.istore_n 3, 1)) rfl (by decide) rfl) <|
   ev_a (ok_ild_n X hP (by decide +kernel : decode cJx4a65c_clear_da8c8 27 = .ok (.iload_n 3, 1)) rfl rfl) <|
   ev_a (ok_ild_n X hP (by decide +kernel : decode cJx4a65c_clear_da8c8 28 = .ok (.iload_n 2, 1)) rfl rfl) <|
   ev_a (ok_icmp_ge X hP (by decide +kernel : decode cJx4a65c_clear_da8c8 29 = .ok (.if_icmp .ge 13, 3)) (by decide) rfl) <|
   ev_a (ok_no) <|
   ev_a (ok_no) <| ev_a0) <|
  ev_b (
   ev_a (ok_ald_n X hP (by decide +kernel : decode cJx4a65c_clear_da8c8 32 = .ok (.aload_n 1, 1)) rfl rfl) <|
   ev_a (ok_ild_n X hP (by decide +kernel : decode cJx4a65c_clear_da8c8 33 = .ok (.iload_n 3, 1)) rfl rfl) <|
   ev_a (ok_psh_null X hP (by decide +kernel : decode cJx4a65c_clear_da8c8 34 = .ok (.aconst_null, 1)) rfl) <|
   ev_a (ok_aastores X hP (ci := 17) (by decide +kernel : decode cJx4a65c_clear_da8c8 35 = .ok (.aastore, 1)) rfl ev_w1922 ev_w1930 rfl) <|
   ev_a (ok_inc X hP (by decide +kernel : decode cJx4a65c_clear_da8c8 36 = .ok (.iinc 3 1, 3)) (by decide) rfl) <|
   ev_a (ok_no) <|
   ev_a (ok_no) <|
   ev_a (ok_jmp X hP (by decide +kernel : decode cJx4a65c_clear_da8c8 39 = .ok (.goto (-12), 3)) (by decide)) <|
   ev_a (ok_no) <|
   ev_a (ok_no) <|
   ev_a (ok_return X hP hQ hfin rfl (by decide +kernel : decode cJx4a65c_clear_da8c8 42 = .ok (.return_, 1))) <| ev_a0) <|
  ev_b0
set_option maxRecDepth 100000 in
theorem ev_s8 {l : Launch} {d : Nat} {cf : Nat → List Value → ev_W → Option ev_R} {p : Program} {e : Env} {R : Room} {s : State} {m : MethodId} {args : Array Value} {below : List Frame} {meth : Method} {c : Code} {Q : State → Prop} {D : va_G} {G : Nat → ClassId} {ad : Nat → Nat} {A : Nat → Prop} {z wE nE : Nat} {P : Nat → List Value → List Value → ev_W → Nat → Prop} {α : Type} {r : α} {fin : Option Value → ev_W → Nat → Option α} (X : ev_X cJx4a65c_grow_92f84 4 yJx4a65c_grow_92f84.cls (some (FieldType.array (FieldType.object "java/lang/Object"))) p s m args meth c D G ad A z) (hP : ev_PP p l e R s m args below meth c Q 4 D G ad A z wE nE P) (hR : wE - z ≤ R.cells ∧ nE ≤ R.slots) (hd2 : d + 1 ≤ R.frames ∧ 64 * (d + 1) ≤ R.locals) (hR1 : 1 ≤ R.frames) (hR2 : 21 ≤ R.locals) (hcf : ev_cf l ev_ys d cf) {Qc : Array Value → State → Outcome → State → Prop} (hQ : Q = MQ below Qc args s (wE - z) nE A) (hfin : ∀ v w n, fin v w n = some r → w.length = wE ∧ n = nE ∧ ∀ H locs, ev_H D G ad A w H → va_S A s.heap H locs → ∀ t : State, t.heap = H → s.WarmedH t.vm → Qc args s (.returned (v.map (ev_v ad))) t) : ev_all2 (ev_ok P r) 0 (ev_o8 cf fin) :=
  ev_b (
   ev_a (ok_ald_n X hP (by decide +kernel : decode cJx4a65c_grow_92f84 0 = .ok (.aload_n 0, 1)) rfl rfl) <|
   ev_a (ok_get X hP (ci := 4) (kf := 1) (T := TJx4a65c) (by decide +kernel : decode cJx4a65c_grow_92f84 1 = .ok (.getfield 9, 3)) rfl ev_in4 (by decide) ev_w1368 (Or.inl rfl) rfl) <|
   ev_a (ok_no) <|
   ev_a (ok_no) <|
   ev_a (ok_aln X hP (by decide +kernel : decode cJx4a65c_grow_92f84 4 = .ok (.arraylength, 1)) rfl) <|
   ev_a (ok_ist_n X hP (by decide +kernel : decode cJx4a65c_grow_92f84 5 = .ok (.istore_n 2, 1)) rfl (by decide) rfl) <|
   ev_a (ok_ild_n X hP (by decide +kernel : decode cJx4a65c_grow_92f84 6 = .ok (.iload_n 2, 1)) rfl rfl) <|
   ev_a (ok_if_gt X hP (by decide +kernel : decode cJx4a65c_grow_92f84 7 = .ok (.ifCond .gt 13, 3)) (by decide) rfl) <|
   ev_a (ok_no) <|
   ev_a (ok_no) <|
   ev_a (ok_ald_n X hP (by decide +kernel : decode cJx4a65c_grow_92f84 10 = .ok (.aload_n 0, 1)) rfl rfl) <|
   ev_a (ok_get X hP (ci := 4) (kf := 1) (T := TJx4a65c) (by decide +kernel : decode cJx4a65c_grow_92f84 11 = .ok (.getfield 9, 3)) rfl ev_in4 (by decide) ev_w1368 (Or.inl rfl) rfl) <|
   ev_a (ok_no) <|
   ev_a (ok_no) <|
   ev_a (ok_gst X hP (by decide +kernel : decode cJx4a65c_grow_92f84 14 = .ok (.getstatic 39, 3)) ev_w1366 rfl) <|
   ev_a (ok_no) <| ev_a0) <|
  ev_b (
   ev_a (ok_no) <|
   ev_a (ok_acmp_eq X hP (by decide +kernel : decode cJx4a65c_grow_92f84 17 = .ok (.if_acmp .eq 28, 3)) (by decide) rfl) <|
   ev_a (ok_no) <|
   ev_a (ok_no) <|
   ev_a (ok_ild_n X hP (by decide +kernel : decode cJx4a65c_grow_92f84 20 = .ok (.iload_n 2, 1)) rfl rfl) <|
   ev_a (ok_ild_n X hP (by decide +kernel : decode cJx4a65c_grow_92f84 21 = .ok (.iload_n 1, 1)) rfl rfl) <|
   ev_a (ok_ild_n X hP (by decide +kernel : decode cJx4a65c_grow_92f84 22 = .ok (.iload_n 2, 1)) rfl rfl) <|
   ev_a (ok_isub X hP (by decide +kernel : decode cJx4a65c_grow_92f84 23 = .ok (.isub, 1)) rfl) <|
   ev_a (ok_ild_n X hP (by decide +kernel : decode cJx4a65c_grow_92f84 24 = .ok (.iload_n 2, 1)) rfl rfl) <|
   ev_a (ok_psh_iconst X hP (by decide +kernel : decode cJx4a65c_grow_92f84 25 = .ok (.iconst 1, 1)) rfl) <|
   ev_a (ok_ishr X hP (by decide +kernel : decode cJx4a65c_grow_92f84 26 = .ok (.ishr, 1)) rfl) <|
   ev_a (ok_no) <|
   ev_a (ok_no) <|
   ev_a (ok_no) <|
   ev_a (ok_ist_n X hP (by decide +kernel : decode cJx4a65c_grow_92f84 30 = .ok (.istore_n 3, 1)) rfl (by decide) rfl) <|
   ev_a (ok_ald_n X hP (by decide +kernel : decode cJx4a65c_grow_92f84 31 = .ok (.aload_n 0, 1)) rfl rfl) <| ev_a0) <|
  ev_b (
   ev_a (ok_ald_n X hP (by decide +kernel : decode cJx4a65c_grow_92f84 32 = .ok (.aload_n 0, 1)) rfl rfl) <|
   ev_a (ok_get X hP (ci := 4) (kf := 1) (T := TJx4a65c) (by decide +kernel : decode cJx4a65c_grow_92f84 33 = .ok (.getfield 9, 3)) rfl ev_in4 (by decide) ev_w1368 (Or.inl rfl) rfl) <|
   ev_a (ok_no) <|
   ev_a (ok_no) <|
   ev_a (ok_ild_n X hP (by decide +kernel : decode cJx4a65c_grow_92f84 36 = .ok (.iload_n 3, 1)) rfl rfl) <|
   ev_a (ok_no) <|
   ev_a (ok_no) <|
   ev_a (ok_no) <|
   ev_a (ok_dx1 X hP (by decide +kernel : decode cJx4a65c_grow_92f84 40 = .ok (.dup_x1, 1)) rfl) <|
   ev_a (ok_put X hP (ci := 4) (kf := 1) (T := TJx4a65c) tyJx4a65c (by decide +kernel : decode cJx4a65c_grow_92f84 41 = .ok (.putfield 9, 3)) rfl ev_in4 tyJx4a65c_ok nmJx4a65c (by decide) ev_w1368 (Or.inl rfl) rfl rfl rfl) <|
   ev_a (ok_no) <|
   ev_a (ok_no) <|
   ev_a (ok_areturn X hP hQ hfin rfl (Or.inr ⟨_, rfl⟩) (by decide +kernel : decode cJx4a65c_grow_92f84 44 = .ok (.areturn, 1))) <|
   ev_a (ok_ald_n X hP (by decide +kernel : decode cJx4a65c_grow_92f84 45 = .ok (.aload_n 0, 1)) rfl rfl) <|
   ev_a (ok_psh_bipush X hP (by decide +kernel : decode cJx4a65c_grow_92f84 46 = .ok (.bipush 10, 2)) rfl) <|
   ev_a (ok_no) <| ev_a0) <|
  ev_b (
   ev_a (ok_ild_n X hP (by decide +kernel : decode cJx4a65c_grow_92f84 48 = .ok (.iload_n 1, 1)) rfl rfl) <|
   ev_a (ok_mx X hP hR hR1 hR2 (by decide +kernel : decode cJx4a65c_grow_92f84 49 = .ok (.invokestatic 79, 3)) ev_w1497 ev_w682 ev_w93 ev_w683 rfl) <|
   ev_a (ok_no) <|
   ev_a (ok_no) <|
   ev_a (ok_anewarray X hP hR (by decide +kernel : decode cJx4a65c_grow_92f84 52 = .ok (.anewarray 7, 3)) ev_w1498 rfl) <|
   ev_a (ok_no) <|
   ev_a (ok_no) <|
   ev_a (ok_dx1 X hP (by decide +kernel : decode cJx4a65c_grow_92f84 55 = .ok (.dup_x1, 1)) rfl) <|
   ev_a (ok_put X hP (ci := 4) (kf := 1) (T := TJx4a65c) tyJx4a65c (by decide +kernel : decode cJx4a65c_grow_92f84 56 = .ok (.putfield 9, 3)) rfl ev_in4 tyJx4a65c_ok nmJx4a65c (by decide) ev_w1368 (Or.inl rfl) rfl rfl rfl) <|
   ev_a (ok_no) <|
   ev_a (ok_no) <|
   ev_a (ok_areturn X hP hQ hfin rfl (Or.inr ⟨_, rfl⟩) (by decide +kernel : decode cJx4a65c_grow_92f84 59 = .ok (.areturn, 1))) <| ev_a0) <|
  ev_b0
set_option maxRecDepth 100000 in
theorem ev_s9 {l : Launch} {d : Nat} {cf : Nat → List Value → ev_W → Option ev_R} {p : Program} {e : Env} {R : Room} {s : State} {m : MethodId} {args : Array Value} {below : List Frame} {meth : Method} {c : Code} {Q : State → Prop} {D : va_G} {G : Nat → ClassId} {ad : Nat → Nat} {A : Nat → Prop} {z wE nE : Nat} {P : Nat → List Value → List Value → ev_W → Nat → Prop} {α : Type} {r : α} {fin : Option Value → ev_W → Nat → Option α} (X : ev_X cJx4a65c_grow_d5877 1 yJx4a65c_grow_d5877.cls (some (FieldType.array (FieldType.object "java/lang/Object"))) p s m args meth c D G ad A z) (hP : ev_PP p l e R s m args below meth c Q 1 D G ad A z wE nE P) (hR : wE - z ≤ R.cells ∧ nE ≤ R.slots) (hd2 : d + 1 ≤ R.frames ∧ 64 * (d + 1) ≤ R.locals) (hR1 : 1 ≤ R.frames) (hR2 : 21 ≤ R.locals) (hcf : ev_cf l ev_ys d cf) {Qc : Array Value → State → Outcome → State → Prop} (hQ : Q = MQ below Qc args s (wE - z) nE A) (hfin : ∀ v w n, fin v w n = some r → w.length = wE ∧ n = nE ∧ ∀ H locs, ev_H D G ad A w H → va_S A s.heap H locs → ∀ t : State, t.heap = H → s.WarmedH t.vm → Qc args s (.returned (v.map (ev_v ad))) t) : ev_all2 (ev_ok P r) 0 (ev_o9 cf fin) :=
  ev_b (
   ev_a (ok_ald_n X hP (by decide +kernel : decode cJx4a65c_grow_d5877 0 = .ok (.aload_n 0, 1)) rfl rfl) <|
   ev_a (ok_ald_n X hP (by decide +kernel : decode cJx4a65c_grow_d5877 1 = .ok (.aload_n 0, 1)) rfl rfl) <|
   ev_a (ok_get X hP (ci := 4) (kf := 2) (T := TJx4a65c) (by decide +kernel : decode cJx4a65c_grow_d5877 2 = .ok (.getfield 48, 3)) rfl ev_in4 (by decide) ev_w1371 (Or.inl rfl) rfl) <|
   ev_a (ok_no) <|
   ev_a (ok_no) <|
   ev_a (ok_psh_iconst X hP (by decide +kernel : decode cJx4a65c_grow_d5877 5 = .ok (.iconst 1, 1)) rfl) <|
   ev_a (ok_iadd X hP (by decide +kernel : decode cJx4a65c_grow_d5877 6 = .ok (.iadd, 1)) rfl) <|
   ev_a (ok_invV X hP hR hd2 hcf (ci := 4) ev_y8 rfl (by decide +kernel : decode cJx4a65c_grow_d5877 7 = .ok (.invokevirtual 69, 3)) ev_w1460 ev_w1457 ev_w1459 ev_w40 ev_w85 ⟨rfl, ev_dn8⟩ (by decide) rfl) <|
   ev_a (ok_no) <|
   ev_a (ok_no) <|
   ev_a (ok_areturn X hP hQ hfin rfl (Or.inr ⟨_, rfl⟩) (by decide +kernel : decode cJx4a65c_grow_d5877 10 = .ok (.areturn, 1))) <| ev_a0) <|
  ev_b0
set_option maxRecDepth 100000 in
theorem ev_s10 {l : Launch} {d : Nat} {cf : Nat → List Value → ev_W → Option ev_R} {p : Program} {e : Env} {R : Room} {s : State} {m : MethodId} {args : Array Value} {below : List Frame} {meth : Method} {c : Code} {Q : State → Prop} {D : va_G} {G : Nat → ClassId} {ad : Nat → Nat} {A : Nat → Prop} {z wE nE : Nat} {P : Nat → List Value → List Value → ev_W → Nat → Prop} {α : Type} {r : α} {fin : Option Value → ev_W → Nat → Option α} (X : ev_X cJx4a65c_init_da8c8 1 yJx4a65c_init_da8c8.cls none p s m args meth c D G ad A z) (hP : ev_PP p l e R s m args below meth c Q 1 D G ad A z wE nE P) (hR : wE - z ≤ R.cells ∧ nE ≤ R.slots) (hd2 : d + 1 ≤ R.frames ∧ 64 * (d + 1) ≤ R.locals) (hR1 : 1 ≤ R.frames) (hR2 : 21 ≤ R.locals) (hcf : ev_cf l ev_ys d cf) {Qc : Array Value → State → Outcome → State → Prop} (hQ : Q = MQ below Qc args s (wE - z) nE A) (hfin : ∀ v w n, fin v w n = some r → w.length = wE ∧ n = nE ∧ ∀ H locs, ev_H D G ad A w H → va_S A s.heap H locs → ∀ t : State, t.heap = H → s.WarmedH t.vm → Qc args s (.returned (v.map (ev_v ad))) t) : ev_all2 (ev_ok P r) 0 (ev_o10 cf fin) :=
  ev_b (
   ev_a (ok_ald_n X hP (by decide +kernel : decode cJx4a65c_init_da8c8 0 = .ok (.aload_n 0, 1)) rfl rfl) <|
   ev_a (ok_invI X hP hR hd2 hcf ev_y14 (by decide +kernel : decode cJx4a65c_init_da8c8 1 = .ok (.invokespecial 1, 3)) ev_w1361 ev_w1359 ev_w1360 ev_w84 rfl ev_dn14 (by decide) rfl) <|
   ev_a (ok_no) <|
   ev_a (ok_no) <|
   ev_a (ok_ald_n X hP (by decide +kernel : decode cJx4a65c_init_da8c8 4 = .ok (.aload_n 0, 1)) rfl rfl) <|
   ev_a (ok_gst X hP (by decide +kernel : decode cJx4a65c_init_da8c8 5 = .ok (.getstatic 39, 3)) ev_w1366 rfl) <|
   ev_a (ok_no) <|
   ev_a (ok_no) <|
   ev_a (ok_put X hP (ci := 4) (kf := 1) (T := TJx4a65c) tyJx4a65c (by decide +kernel : decode cJx4a65c_init_da8c8 8 = .ok (.putfield 9, 3)) rfl ev_in4 tyJx4a65c_ok nmJx4a65c (by decide) ev_w1368 (Or.inl rfl) rfl rfl rfl) <|
   ev_a (ok_no) <|
   ev_a (ok_no) <|
   ev_a (ok_return X hP hQ hfin rfl (by decide +kernel : decode cJx4a65c_init_da8c8 11 = .ok (.return_, 1))) <| ev_a0) <|
  ev_b0
set_option maxRecDepth 100000 in
theorem ev_s11 {l : Launch} {d : Nat} {cf : Nat → List Value → ev_W → Option ev_R} {p : Program} {e : Env} {R : Room} {s : State} {m : MethodId} {args : Array Value} {below : List Frame} {meth : Method} {c : Code} {Q : State → Prop} {D : va_G} {G : Nat → ClassId} {ad : Nat → Nat} {A : Nat → Prop} {z wE nE : Nat} {P : Nat → List Value → List Value → ev_W → Nat → Prop} {α : Type} {r : α} {fin : Option Value → ev_W → Nat → Option α} (X : ev_X cJx4a65c_iterator_32c93 1 yJx4a65c_iterator_32c93.cls (some (FieldType.object "java/util/Iterator")) p s m args meth c D G ad A z) (hP : ev_PP p l e R s m args below meth c Q 1 D G ad A z wE nE P) (hR : wE - z ≤ R.cells ∧ nE ≤ R.slots) (hd2 : d + 1 ≤ R.frames ∧ 64 * (d + 1) ≤ R.locals) (hR1 : 1 ≤ R.frames) (hR2 : 21 ≤ R.locals) (hcf : ev_cf l ev_ys d cf) {Qc : Array Value → State → Outcome → State → Prop} (hQ : Q = MQ below Qc args s (wE - z) nE A) (hfin : ∀ v w n, fin v w n = some r → w.length = wE ∧ n = nE ∧ ∀ H locs, ev_H D G ad A w H → va_S A s.heap H locs → ∀ t : State, t.heap = H → s.WarmedH t.vm → Qc args s (.returned (v.map (ev_v ad))) t) : ev_all2 (ev_ok P r) 0 (ev_o11 cf fin) :=
  ev_b (
   ev_a (ok_new X hP hR (ci := 3) (N := 4) (T := TJx35411) tyJx35411 (by decide +kernel : decode cJx4a65c_iterator_32c93 0 = .ok (.new 267, 3)) rfl ev_in3 tyJx35411_ok ev_w1523 ev_w1524 ev_w98 (by decide +kernel) rfl ⟨rfl, by decide⟩ rfl) <|
   ev_a (ok_no) <|
   ev_a (ok_no) <|
   ev_a (ok_dup X hP (by decide +kernel : decode cJx4a65c_iterator_32c93 3 = .ok (.dup, 1)) rfl) <|
   ev_a (ok_ald_n X hP (by decide +kernel : decode cJx4a65c_iterator_32c93 4 = .ok (.aload_n 0, 1)) rfl rfl) <|
   ev_a (ok_invI X hP hR hd2 hcf ev_y3 (by decide +kernel : decode cJx4a65c_iterator_32c93 5 = .ok (.invokespecial 269, 3)) ev_w1527 ev_w1525 ev_w1526 ev_w98 rfl ev_dn3 (by decide) rfl) <|
   ev_a (ok_no) <|
   ev_a (ok_no) <|
   ev_a (ok_areturn X hP hQ hfin rfl (Or.inl ⟨_, rfl⟩) (by decide +kernel : decode cJx4a65c_iterator_32c93 8 = .ok (.areturn, 1))) <| ev_a0) <|
  ev_b0
set_option maxRecDepth 100000 in
theorem ev_s12 {l : Launch} {d : Nat} {cf : Nat → List Value → ev_W → Option ev_R} {p : Program} {e : Env} {R : Room} {s : State} {m : MethodId} {args : Array Value} {below : List Frame} {meth : Method} {c : Code} {Q : State → Prop} {D : va_G} {G : Nat → ClassId} {ad : Nat → Nat} {A : Nat → Prop} {z wE nE : Nat} {P : Nat → List Value → List Value → ev_W → Nat → Prop} {α : Type} {r : α} {fin : Option Value → ev_W → Nat → Option α} (X : ev_X cJx4a65c_size_8abf5 1 yJx4a65c_size_8abf5.cls (some FieldType.int) p s m args meth c D G ad A z) (hP : ev_PP p l e R s m args below meth c Q 1 D G ad A z wE nE P) (hR : wE - z ≤ R.cells ∧ nE ≤ R.slots) (hd2 : d + 1 ≤ R.frames ∧ 64 * (d + 1) ≤ R.locals) (hR1 : 1 ≤ R.frames) (hR2 : 21 ≤ R.locals) (hcf : ev_cf l ev_ys d cf) {Qc : Array Value → State → Outcome → State → Prop} (hQ : Q = MQ below Qc args s (wE - z) nE A) (hfin : ∀ v w n, fin v w n = some r → w.length = wE ∧ n = nE ∧ ∀ H locs, ev_H D G ad A w H → va_S A s.heap H locs → ∀ t : State, t.heap = H → s.WarmedH t.vm → Qc args s (.returned (v.map (ev_v ad))) t) : ev_all2 (ev_ok P r) 0 (ev_o12 cf fin) :=
  ev_b (
   ev_a (ok_ald_n X hP (by decide +kernel : decode cJx4a65c_size_8abf5 0 = .ok (.aload_n 0, 1)) rfl rfl) <|
   ev_a (ok_get X hP (ci := 4) (kf := 2) (T := TJx4a65c) (by decide +kernel : decode cJx4a65c_size_8abf5 1 = .ok (.getfield 48, 3)) rfl ev_in4 (by decide) ev_w1371 (Or.inl rfl) rfl) <|
   ev_a (ok_no) <|
   ev_a (ok_no) <|
   ev_a (ok_ireturn X hP hQ hfin rfl (by decide +kernel : decode cJx4a65c_size_8abf5 4 = .ok (.ireturn, 1))) <| ev_a0) <|
  ev_b0
set_option maxRecDepth 100000 in
theorem ev_s13 {l : Launch} {d : Nat} {cf : Nat → List Value → ev_W → Option ev_R} {p : Program} {e : Env} {R : Room} {s : State} {m : MethodId} {args : Array Value} {below : List Frame} {meth : Method} {c : Code} {Q : State → Prop} {D : va_G} {G : Nat → ClassId} {ad : Nat → Nat} {A : Nat → Prop} {z wE nE : Nat} {P : Nat → List Value → List Value → ev_W → Nat → Prop} {α : Type} {r : α} {fin : Option Value → ev_W → Nat → Option α} (X : ev_X cJxa1e45_init_da8c8 1 yJxa1e45_init_da8c8.cls none p s m args meth c D G ad A z) (hP : ev_PP p l e R s m args below meth c Q 1 D G ad A z wE nE P) (hR : wE - z ≤ R.cells ∧ nE ≤ R.slots) (hd2 : d + 1 ≤ R.frames ∧ 64 * (d + 1) ≤ R.locals) (hR1 : 1 ≤ R.frames) (hR2 : 21 ≤ R.locals) (hcf : ev_cf l ev_ys d cf) {Qc : Array Value → State → Outcome → State → Prop} (hQ : Q = MQ below Qc args s (wE - z) nE A) (hfin : ∀ v w n, fin v w n = some r → w.length = wE ∧ n = nE ∧ ∀ H locs, ev_H D G ad A w H → va_S A s.heap H locs → ∀ t : State, t.heap = H → s.WarmedH t.vm → Qc args s (.returned (v.map (ev_v ad))) t) : ev_all2 (ev_ok P r) 0 (ev_o13 cf fin) :=
  ev_b (
   ev_a (ok_ald_n X hP (by decide +kernel : decode cJxa1e45_init_da8c8 0 = .ok (.aload_n 0, 1)) rfl rfl) <|
   ev_a (ok_obj X hP hR1 hR2 (by decide +kernel : decode cJxa1e45_init_da8c8 1 = .ok (.invokespecial 1, 3)) ev_w1365 ev_w115 ev_w116 rfl) <|
   ev_a (ok_no) <|
   ev_a (ok_no) <|
   ev_a (ok_return X hP hQ hfin rfl (by decide +kernel : decode cJxa1e45_init_da8c8 4 = .ok (.return_, 1))) <| ev_a0) <|
  ev_b0
set_option maxRecDepth 100000 in
theorem ev_s14 {l : Launch} {d : Nat} {cf : Nat → List Value → ev_W → Option ev_R} {p : Program} {e : Env} {R : Room} {s : State} {m : MethodId} {args : Array Value} {below : List Frame} {meth : Method} {c : Code} {Q : State → Prop} {D : va_G} {G : Nat → ClassId} {ad : Nat → Nat} {A : Nat → Prop} {z wE nE : Nat} {P : Nat → List Value → List Value → ev_W → Nat → Prop} {α : Type} {r : α} {fin : Option Value → ev_W → Nat → Option α} (X : ev_X cJxc12de_init_da8c8 1 yJxc12de_init_da8c8.cls none p s m args meth c D G ad A z) (hP : ev_PP p l e R s m args below meth c Q 1 D G ad A z wE nE P) (hR : wE - z ≤ R.cells ∧ nE ≤ R.slots) (hd2 : d + 1 ≤ R.frames ∧ 64 * (d + 1) ≤ R.locals) (hR1 : 1 ≤ R.frames) (hR2 : 21 ≤ R.locals) (hcf : ev_cf l ev_ys d cf) {Qc : Array Value → State → Outcome → State → Prop} (hQ : Q = MQ below Qc args s (wE - z) nE A) (hfin : ∀ v w n, fin v w n = some r → w.length = wE ∧ n = nE ∧ ∀ H locs, ev_H D G ad A w H → va_S A s.heap H locs → ∀ t : State, t.heap = H → s.WarmedH t.vm → Qc args s (.returned (v.map (ev_v ad))) t) : ev_all2 (ev_ok P r) 0 (ev_o14 cf fin) :=
  ev_b (
   ev_a (ok_ald_n X hP (by decide +kernel : decode cJxc12de_init_da8c8 0 = .ok (.aload_n 0, 1)) rfl rfl) <|
   ev_a (ok_invI X hP hR hd2 hcf ev_y13 (by decide +kernel : decode cJxc12de_init_da8c8 1 = .ok (.invokespecial 1, 3)) ev_w1364 ev_w1362 ev_w1363 ev_w83 rfl ev_dn13 (by decide) rfl) <|
   ev_a (ok_no) <|
   ev_a (ok_no) <|
   ev_a (ok_ald_n X hP (by decide +kernel : decode cJxc12de_init_da8c8 4 = .ok (.aload_n 0, 1)) rfl rfl) <|
   ev_a (ok_psh_iconst X hP (by decide +kernel : decode cJxc12de_init_da8c8 5 = .ok (.iconst 0, 1)) rfl) <|
   ev_a (ok_put X hP (ci := 4) (kf := 0) (T := TJx4a65c) tyJx4a65c (by decide +kernel : decode cJxc12de_init_da8c8 6 = .ok (.putfield 7, 3)) rfl ev_in4 tyJx4a65c_ok nmJx4a65c (by decide) ev_w1372 (Or.inl rfl) rfl rfl rfl) <|
   ev_a (ok_no) <|
   ev_a (ok_no) <|
   ev_a (ok_return X hP hQ hfin rfl (by decide +kernel : decode cJxc12de_init_da8c8 9 = .ok (.return_, 1))) <| ev_a0) <|
  ev_b0
set_option maxRecDepth 100000 in
theorem ev_s15 {l : Launch} {d : Nat} {cf : Nat → List Value → ev_W → Option ev_R} {p : Program} {e : Env} {R : Room} {s : State} {m : MethodId} {args : Array Value} {below : List Frame} {meth : Method} {c : Code} {Q : State → Prop} {D : va_G} {G : Nat → ClassId} {ad : Nat → Nat} {A : Nat → Prop} {z wE nE : Nat} {P : Nat → List Value → List Value → ev_W → Nat → Prop} {α : Type} {r : α} {fin : Option Value → ev_W → Nat → Option α} (X : ev_X cL_commit 3 yL_commit.cls (some FieldType.int) p s m args meth c D G ad A z) (hP : ev_PP p l e R s m args below meth c Q 3 D G ad A z wE nE P) (hR : wE - z ≤ R.cells ∧ nE ≤ R.slots) (hd2 : d + 1 ≤ R.frames ∧ 64 * (d + 1) ≤ R.locals) (hR1 : 1 ≤ R.frames) (hR2 : 21 ≤ R.locals) (hcf : ev_cf l ev_ys d cf) {Qc : Array Value → State → Outcome → State → Prop} (hQ : Q = MQ below Qc args s (wE - z) nE A) (hfin : ∀ v w n, fin v w n = some r → w.length = wE ∧ n = nE ∧ ∀ H locs, ev_H D G ad A w H → va_S A s.heap H locs → ∀ t : State, t.heap = H → s.WarmedH t.vm → Qc args s (.returned (v.map (ev_v ad))) t) : ev_all2 (ev_ok P r) 0 (ev_o15 cf fin) :=
  ev_b (
   ev_a (ok_ald_n X hP (by decide +kernel : decode cL_commit 0 = .ok (.aload_n 1, 1)) rfl rfl) <|
   ev_a (ok_ald_n X hP (by decide +kernel : decode cL_commit 1 = .ok (.aload_n 0, 1)) rfl rfl) <|
   ev_a (ok_invV X hP hR hd2 hcf (ci := 15) ev_y26 rfl (by decide +kernel : decode cL_commit 2 = .ok (.invokevirtual 27, 3)) ev_w897 ev_w894 ev_w895 ev_w896 ev_w71 ⟨rfl, ev_dn26⟩ (by decide) rfl) <|
   ev_a (ok_no) <|
   ev_a (ok_no) <|
   ev_a (ok_i2l X hP (by decide +kernel : decode cL_commit 5 = .ok (.i2l, 1)) rfl) <|
   ev_a (ok_putN X hP (ci := 16) (kf := 0) (T := TX11) tyX11 (by decide +kernel : decode cL_commit 6 = .ok (.putfield 13, 3)) rfl ev_in16 tyX11_ok nmX11 (by decide) ev_w771 (Or.inl rfl) rfl rfl rfl) <|
   ev_a (ok_no) <|
   ev_a (ok_no) <|
   ev_a (ok_jmp X hP (by decide +kernel : decode cL_commit 9 = .ok (.goto 6, 3)) (by decide)) <|
   ev_a (ok_no) <|
   ev_a (ok_no) <|
   ev_a (ok_ast_n X hP (by decide +kernel : decode cL_commit 12 = .ok (.astore_n 2, 1)) rfl (by decide) rfl) <|
   ev_a (ok_psh_iconst X hP (by decide +kernel : decode cL_commit 13 = .ok (.iconst 1, 1)) rfl) <|
   ev_a (ok_ireturn X hP hQ hfin rfl (by decide +kernel : decode cL_commit 14 = .ok (.ireturn, 1))) <|
   ev_a (ok_psh_iconst X hP (by decide +kernel : decode cL_commit 15 = .ok (.iconst 0, 1)) rfl) <| ev_a0) <|
  ev_b (
   ev_a (ok_ireturn X hP hQ hfin rfl (by decide +kernel : decode cL_commit 16 = .ok (.ireturn, 1))) <| ev_a0) <|
  ev_b0
set_option maxRecDepth 100000 in
theorem ev_s16 {l : Launch} {d : Nat} {cf : Nat → List Value → ev_W → Option ev_R} {p : Program} {e : Env} {R : Room} {s : State} {m : MethodId} {args : Array Value} {below : List Frame} {meth : Method} {c : Code} {Q : State → Prop} {D : va_G} {G : Nat → ClassId} {ad : Nat → Nat} {A : Nat → Prop} {z wE nE : Nat} {P : Nat → List Value → List Value → ev_W → Nat → Prop} {α : Type} {r : α} {fin : Option Value → ev_W → Nat → Option α} (X : ev_X cL_law 7 RL (some FieldType.boolean) p s m args meth c D G ad A z) (hP : ev_PP p l e R s m args below meth c Q 7 D G ad A z wE nE P) (hR : wE - z ≤ R.cells ∧ nE ≤ R.slots) (hd2 : d + 1 ≤ R.frames ∧ 64 * (d + 1) ≤ R.locals) (hR1 : 1 ≤ R.frames) (hR2 : 21 ≤ R.locals) (hcf : ev_cf l ev_ys d cf) {Qc : Array Value → State → Outcome → State → Prop} (hQ : Q = MQ below Qc args s (wE - z) nE A) (hfin : ∀ v w n, fin v w n = some r → w.length = wE ∧ n = nE ∧ ∀ H locs, ev_H D G ad A w H → va_S A s.heap H locs → ∀ t : State, t.heap = H → s.WarmedH t.vm → Qc args s (.returned (v.map (ev_v ad))) t) : ev_all2 (ev_ok P r) 0 (ev_o16 cf fin) :=
  ev_b (
   ev_a (ok_new X hP hR (ci := 15) (N := 16) (T := TX10) tyX10 (by decide +kernel : decode cL_law 0 = .ok (.new 8, 3)) rfl ev_in15 tyX10_ok ev_w109 ev_w110 ev_w71 (by decide +kernel) rfl ⟨rfl, by decide⟩ rfl) <|
   ev_a (ok_no) <|
   ev_a (ok_no) <|
   ev_a (ok_dup X hP (by decide +kernel : decode cL_law 3 = .ok (.dup, 1)) rfl) <|
   ev_a (ok_invI X hP hR hd2 hcf ev_y29 (by decide +kernel : decode cL_law 4 = .ok (.invokespecial 86, 3)) ev_w113 ev_w111 ev_w112 ev_w71 rfl ev_dn29 (by decide) rfl) <|
   ev_a (ok_no) <|
   ev_a (ok_no) <|
   ev_a (ok_ast_n X hP (by decide +kernel : decode cL_law 7 = .ok (.astore_n 1, 1)) rfl (by decide) rfl) <|
   ev_a (ok_new X hP hR (ci := 18) (N := 12) (T := TX13) tyX13 (by decide +kernel : decode cL_law 8 = .ok (.new 87, 3)) rfl ev_in18 tyX13_ok ev_w1348 ev_w1349 ev_w82 (by decide +kernel) rfl ⟨rfl, by decide⟩ rfl) <|
   ev_a (ok_no) <|
   ev_a (ok_no) <|
   ev_a (ok_dup X hP (by decide +kernel : decode cL_law 11 = .ok (.dup, 1)) rfl) <|
   ev_a (ok_invI X hP hR hd2 hcf ev_y45 (by decide +kernel : decode cL_law 12 = .ok (.invokespecial 89, 3)) ev_w1352 ev_w1350 ev_w1351 ev_w82 rfl ev_dn45 (by decide) rfl) <|
   ev_a (ok_no) <|
   ev_a (ok_no) <|
   ev_a (ok_ast_n X hP (by decide +kernel : decode cL_law 15 = .ok (.astore_n 2, 1)) rfl (by decide) rfl) <| ev_a0) <|
  ev_b (
   ev_a (ok_new X hP hR (ci := 16) (N := 2) (T := TX11) tyX11 (by decide +kernel : decode cL_law 16 = .ok (.new 14, 3)) rfl ev_in16 tyX11_ok ev_w765 ev_w766 ev_w86 (by decide +kernel) rfl ⟨rfl, by decide⟩ rfl) <|
   ev_a (ok_no) <|
   ev_a (ok_no) <|
   ev_a (ok_dup X hP (by decide +kernel : decode cL_law 19 = .ok (.dup, 1)) rfl) <|
   ev_a (ok_invIN X hP hR hd2 hcf ev_y36 (by decide +kernel : decode cL_law 20 = .ok (.invokespecial 90, 3)) ev_w769 ev_w767 ev_w768 ev_w86 rfl ev_dn36 (by decide) rfl) <|
   ev_a (ok_no) <|
   ev_a (ok_no) <|
   ev_a (ok_ast_n X hP (by decide +kernel : decode cL_law 23 = .ok (.astore_n 3, 1)) rfl (by decide) rfl) <|
   ev_a (ok_psh_iconst X hP (by decide +kernel : decode cL_law 24 = .ok (.iconst 0, 1)) rfl) <|
   ev_a (ok_ist X hP (by decide +kernel : decode cL_law 25 = .ok (.istore 4, 2)) (by decide) rfl) <|
   ev_a (ok_no) <|
   ev_a (ok_ild X hP (by decide +kernel : decode cL_law 27 = .ok (.iload 4, 2)) rfl) <|
   ev_a (ok_no) <|
   ev_a (ok_ald_n X hP (by decide +kernel : decode cL_law 29 = .ok (.aload_n 0, 1)) rfl rfl) <|
   ev_a (ok_aln X hP (by decide +kernel : decode cL_law 30 = .ok (.arraylength, 1)) rfl) <|
   ev_a (ok_psh_iconst X hP (by decide +kernel : decode cL_law 31 = .ok (.iconst 4, 1)) rfl) <| ev_a0) <|
  ev_b (
   ev_a (ok_isub X hP (by decide +kernel : decode cL_law 32 = .ok (.isub, 1)) rfl) <|
   ev_a (ok_icmp_gt X hP (by decide +kernel : decode cL_law 33 = .ok (.if_icmp .gt 870, 3)) (by decide) rfl) <|
   ev_a (ok_no) <|
   ev_a (ok_no) <|
   ev_a (ok_ald_n X hP (by decide +kernel : decode cL_law 36 = .ok (.aload_n 0, 1)) rfl rfl) <|
   ev_a (ok_ild X hP (by decide +kernel : decode cL_law 37 = .ok (.iload 4, 2)) rfl) <|
   ev_a (ok_no) <|
   ev_a (ok_ialoads X hP (by decide +kernel : decode cL_law 39 = .ok (.iaload, 1)) rfl) <|
   ev_a (ok_psh_bipush X hP (by decide +kernel : decode cL_law 40 = .ok (.bipush 31, 2)) rfl) <|
   ev_a (ok_no) <|
   ev_a (ok_iand X hP (by decide +kernel : decode cL_law 42 = .ok (.iand, 1)) rfl) <|
   ev_a (ok_tsw X hP (by decide +kernel : decode cL_law 43 = .ok (.tableswitch 854 0 25 #[117, 186, 214, 227, 243, 283, 296, 352, 404, 420, 448, 476, 489, 529, 569, 597, 610, 638, 666, 679, 731, 759, 787, 800, 828, 841], 117)) rfl (by decide +kernel)) <|
   ev_a (ok_no) <|
   ev_a (ok_no) <|
   ev_a (ok_no) <|
   ev_a (ok_no) <| ev_a0) <|
  ev_b (
   ev_a (ok_no) <|
   ev_a (ok_no) <|
   ev_a (ok_no) <|
   ev_a (ok_no) <|
   ev_a (ok_no) <|
   ev_a (ok_no) <|
   ev_a (ok_no) <|
   ev_a (ok_no) <|
   ev_a (ok_no) <|
   ev_a (ok_no) <|
   ev_a (ok_no) <|
   ev_a (ok_no) <|
   ev_a (ok_no) <|
   ev_a (ok_no) <|
   ev_a (ok_no) <|
   ev_a (ok_no) <| ev_a0) <|
  ev_b (
   ev_a (ok_no) <|
   ev_a (ok_no) <|
   ev_a (ok_no) <|
   ev_a (ok_no) <|
   ev_a (ok_no) <|
   ev_a (ok_no) <|
   ev_a (ok_no) <|
   ev_a (ok_no) <|
   ev_a (ok_no) <|
   ev_a (ok_no) <|
   ev_a (ok_no) <|
   ev_a (ok_no) <|
   ev_a (ok_no) <|
   ev_a (ok_no) <|
   ev_a (ok_no) <|
   ev_a (ok_no) <| ev_a0) <|
  ev_b (
   ev_a (ok_no) <|
   ev_a (ok_no) <|
   ev_a (ok_no) <|
   ev_a (ok_no) <|
   ev_a (ok_no) <|
   ev_a (ok_no) <|
   ev_a (ok_no) <|
   ev_a (ok_no) <|
   ev_a (ok_no) <|
   ev_a (ok_no) <|
   ev_a (ok_no) <|
   ev_a (ok_no) <|
   ev_a (ok_no) <|
   ev_a (ok_no) <|
   ev_a (ok_no) <|
   ev_a (ok_no) <| ev_a0) <|
  ev_b (
   ev_a (ok_no) <|
   ev_a (ok_no) <|
   ev_a (ok_no) <|
   ev_a (ok_no) <|
   ev_a (ok_no) <|
   ev_a (ok_no) <|
   ev_a (ok_no) <|
   ev_a (ok_no) <|
   ev_a (ok_no) <|
   ev_a (ok_no) <|
   ev_a (ok_no) <|
   ev_a (ok_no) <|
   ev_a (ok_no) <|
   ev_a (ok_no) <|
   ev_a (ok_no) <|
   ev_a (ok_no) <| ev_a0) <|
  ev_b (
   ev_a (ok_no) <|
   ev_a (ok_no) <|
   ev_a (ok_no) <|
   ev_a (ok_no) <|
   ev_a (ok_no) <|
   ev_a (ok_no) <|
   ev_a (ok_no) <|
   ev_a (ok_no) <|
   ev_a (ok_no) <|
   ev_a (ok_no) <|
   ev_a (ok_no) <|
   ev_a (ok_no) <|
   ev_a (ok_no) <|
   ev_a (ok_no) <|
   ev_a (ok_no) <|
   ev_a (ok_no) <| ev_a0) <|
  ev_b (
   ev_a (ok_no) <|
   ev_a (ok_no) <|
   ev_a (ok_no) <|
   ev_a (ok_no) <|
   ev_a (ok_no) <|
   ev_a (ok_no) <|
   ev_a (ok_no) <|
   ev_a (ok_no) <|
   ev_a (ok_no) <|
   ev_a (ok_no) <|
   ev_a (ok_no) <|
   ev_a (ok_no) <|
   ev_a (ok_no) <|
   ev_a (ok_no) <|
   ev_a (ok_no) <|
   ev_a (ok_no) <| ev_a0) <|
  ev_b (
   ev_a (ok_no) <|
   ev_a (ok_no) <|
   ev_a (ok_no) <|
   ev_a (ok_no) <|
   ev_a (ok_no) <|
   ev_a (ok_no) <|
   ev_a (ok_no) <|
   ev_a (ok_no) <|
   ev_a (ok_no) <|
   ev_a (ok_no) <|
   ev_a (ok_no) <|
   ev_a (ok_no) <|
   ev_a (ok_no) <|
   ev_a (ok_no) <|
   ev_a (ok_no) <|
   ev_a (ok_no) <| ev_a0) <|
  ev_b (
   ev_a (ok_ald_n X hP (by decide +kernel : decode cL_law 160 = .ok (.aload_n 1, 1)) rfl rfl) <|
   ev_a (ok_ald_n X hP (by decide +kernel : decode cL_law 161 = .ok (.aload_n 0, 1)) rfl rfl) <|
   ev_a (ok_ild X hP (by decide +kernel : decode cL_law 162 = .ok (.iload 4, 2)) rfl) <|
   ev_a (ok_no) <|
   ev_a (ok_psh_iconst X hP (by decide +kernel : decode cL_law 164 = .ok (.iconst 1, 1)) rfl) <|
   ev_a (ok_iadd X hP (by decide +kernel : decode cL_law 165 = .ok (.iadd, 1)) rfl) <|
   ev_a (ok_ialoads X hP (by decide +kernel : decode cL_law 166 = .ok (.iaload, 1)) rfl) <|
   ev_a (ok_ald_n X hP (by decide +kernel : decode cL_law 167 = .ok (.aload_n 0, 1)) rfl rfl) <|
   ev_a (ok_ild X hP (by decide +kernel : decode cL_law 168 = .ok (.iload 4, 2)) rfl) <|
   ev_a (ok_no) <|
   ev_a (ok_psh_iconst X hP (by decide +kernel : decode cL_law 170 = .ok (.iconst 2, 1)) rfl) <|
   ev_a (ok_iadd X hP (by decide +kernel : decode cL_law 171 = .ok (.iadd, 1)) rfl) <|
   ev_a (ok_ialoads X hP (by decide +kernel : decode cL_law 172 = .ok (.iaload, 1)) rfl) <|
   ev_a (ok_ald_n X hP (by decide +kernel : decode cL_law 173 = .ok (.aload_n 3, 1)) rfl rfl) <|
   ev_a (ok_invSW X hP hR hd2 hcf ev_y17 (by decide +kernel : decode cL_law 174 = .ok (.invokestatic 91, 3)) ev_w780 ev_w778 ev_w779 ev_w70 ev_dn17 (by decide) rfl) <|
   ev_a (ok_no) <| ev_a0) <|
  ev_b (
   ev_a (ok_no) <|
   ev_a (ok_ist X hP (by decide +kernel : decode cL_law 177 = .ok (.istore 5, 2)) (by decide) rfl) <|
   ev_a (ok_no) <|
   ev_a (ok_ald_n X hP (by decide +kernel : decode cL_law 179 = .ok (.aload_n 2, 1)) rfl rfl) <|
   ev_a (ok_ald_n X hP (by decide +kernel : decode cL_law 180 = .ok (.aload_n 0, 1)) rfl rfl) <|
   ev_a (ok_ild X hP (by decide +kernel : decode cL_law 181 = .ok (.iload 4, 2)) rfl) <|
   ev_a (ok_no) <|
   ev_a (ok_psh_iconst X hP (by decide +kernel : decode cL_law 183 = .ok (.iconst 1, 1)) rfl) <|
   ev_a (ok_iadd X hP (by decide +kernel : decode cL_law 184 = .ok (.iadd, 1)) rfl) <|
   ev_a (ok_ialoads X hP (by decide +kernel : decode cL_law 185 = .ok (.iaload, 1)) rfl) <|
   ev_a (ok_ald_n X hP (by decide +kernel : decode cL_law 186 = .ok (.aload_n 0, 1)) rfl rfl) <|
   ev_a (ok_ild X hP (by decide +kernel : decode cL_law 187 = .ok (.iload 4, 2)) rfl) <|
   ev_a (ok_no) <|
   ev_a (ok_psh_iconst X hP (by decide +kernel : decode cL_law 189 = .ok (.iconst 2, 1)) rfl) <|
   ev_a (ok_iadd X hP (by decide +kernel : decode cL_law 190 = .ok (.iadd, 1)) rfl) <|
   ev_a (ok_ialoads X hP (by decide +kernel : decode cL_law 191 = .ok (.iaload, 1)) rfl) <| ev_a0) <|
  ev_b (
   ev_a (ok_invV X hP hR hd2 hcf (ci := 18) ev_y51 rfl (by decide +kernel : decode cL_law 192 = .ok (.invokevirtual 96, 3)) ev_w1427 ev_w1424 ev_w1425 ev_w1426 ev_w82 ⟨rfl, ev_dn51⟩ (by decide) rfl) <|
   ev_a (ok_no) <|
   ev_a (ok_no) <|
   ev_a (ok_ist X hP (by decide +kernel : decode cL_law 195 = .ok (.istore 6, 2)) (by decide) rfl) <|
   ev_a (ok_no) <|
   ev_a (ok_ald_n X hP (by decide +kernel : decode cL_law 197 = .ok (.aload_n 2, 1)) rfl rfl) <|
   ev_a (ok_invV X hP hR hd2 hcf (ci := 18) ev_y52 rfl (by decide +kernel : decode cL_law 198 = .ok (.invokevirtual 97, 3)) ev_w1423 ev_w1420 ev_w1421 ev_w1422 ev_w82 ⟨rfl, ev_dn52⟩ (by decide) rfl) <|
   ev_a (ok_no) <|
   ev_a (ok_no) <|
   ev_a (ok_ild X hP (by decide +kernel : decode cL_law 201 = .ok (.iload 5, 2)) rfl) <|
   ev_a (ok_no) <|
   ev_a (ok_icmp_eq X hP (by decide +kernel : decode cL_law 203 = .ok (.if_icmp .eq 5, 3)) (by decide) rfl) <|
   ev_a (ok_no) <|
   ev_a (ok_no) <|
   ev_a (ok_psh_iconst X hP (by decide +kernel : decode cL_law 206 = .ok (.iconst 0, 1)) rfl) <|
   ev_a (ok_zreturn X hP hQ hfin rfl (by decide +kernel : decode cL_law 207 = .ok (.ireturn, 1))) <| ev_a0) <|
  ev_b (
   ev_a (ok_ild X hP (by decide +kernel : decode cL_law 208 = .ok (.iload 5, 2)) rfl) <|
   ev_a (ok_no) <|
   ev_a (ok_if_ne X hP (by decide +kernel : decode cL_law 210 = .ok (.ifCond .ne 16, 3)) (by decide) rfl) <|
   ev_a (ok_no) <|
   ev_a (ok_no) <|
   ev_a (ok_ald_n X hP (by decide +kernel : decode cL_law 213 = .ok (.aload_n 3, 1)) rfl rfl) <|
   ev_a (ok_getN X hP (ci := 16) (kf := 0) (T := TX11) (by decide +kernel : decode cL_law 214 = .ok (.getfield 13, 3)) rfl ev_in16 (by decide) ev_w771 (Or.inl rfl) rfl) <|
   ev_a (ok_no) <|
   ev_a (ok_no) <|
   ev_a (ok_ild X hP (by decide +kernel : decode cL_law 217 = .ok (.iload 6, 2)) rfl) <|
   ev_a (ok_no) <|
   ev_a (ok_i2l X hP (by decide +kernel : decode cL_law 219 = .ok (.i2l, 1)) rfl) <|
   ev_a (ok_lcm X hP (by decide +kernel : decode cL_law 220 = .ok (.lcmp, 1)) rfl) <|
   ev_a (ok_if_eq X hP (by decide +kernel : decode cL_law 221 = .ok (.ifCond .eq 5, 3)) (by decide) rfl) <|
   ev_a (ok_no) <|
   ev_a (ok_no) <| ev_a0) <|
  ev_b (
   ev_a (ok_psh_iconst X hP (by decide +kernel : decode cL_law 224 = .ok (.iconst 0, 1)) rfl) <|
   ev_a (ok_zreturn X hP hQ hfin rfl (by decide +kernel : decode cL_law 225 = .ok (.ireturn, 1))) <|
   ev_a (ok_jmp X hP (by decide +kernel : decode cL_law 226 = .ok (.goto 671, 3)) (by decide)) <|
   ev_a (ok_no) <|
   ev_a (ok_no) <|
   ev_a (ok_ald_n X hP (by decide +kernel : decode cL_law 229 = .ok (.aload_n 1, 1)) rfl rfl) <|
   ev_a (ok_ald_n X hP (by decide +kernel : decode cL_law 230 = .ok (.aload_n 0, 1)) rfl rfl) <|
   ev_a (ok_ild X hP (by decide +kernel : decode cL_law 231 = .ok (.iload 4, 2)) rfl) <|
   ev_a (ok_no) <|
   ev_a (ok_psh_iconst X hP (by decide +kernel : decode cL_law 233 = .ok (.iconst 1, 1)) rfl) <|
   ev_a (ok_iadd X hP (by decide +kernel : decode cL_law 234 = .ok (.iadd, 1)) rfl) <|
   ev_a (ok_ialoads X hP (by decide +kernel : decode cL_law 235 = .ok (.iaload, 1)) rfl) <|
   ev_a (ok_ald_n X hP (by decide +kernel : decode cL_law 236 = .ok (.aload_n 3, 1)) rfl rfl) <|
   ev_a (ok_invSW X hP hR hd2 hcf ev_y18 (by decide +kernel : decode cL_law 237 = .ok (.invokestatic 100, 3)) ev_w886 ev_w884 ev_w885 ev_w70 ev_dn18 (by decide) rfl) <|
   ev_a (ok_no) <|
   ev_a (ok_no) <| ev_a0) <|
  ev_b (
   ev_a (ok_ist X hP (by decide +kernel : decode cL_law 240 = .ok (.istore 5, 2)) (by decide) rfl) <|
   ev_a (ok_no) <|
   ev_a (ok_ald_n X hP (by decide +kernel : decode cL_law 242 = .ok (.aload_n 2, 1)) rfl rfl) <|
   ev_a (ok_ald_n X hP (by decide +kernel : decode cL_law 243 = .ok (.aload_n 0, 1)) rfl rfl) <|
   ev_a (ok_ild X hP (by decide +kernel : decode cL_law 244 = .ok (.iload 4, 2)) rfl) <|
   ev_a (ok_no) <|
   ev_a (ok_psh_iconst X hP (by decide +kernel : decode cL_law 246 = .ok (.iconst 1, 1)) rfl) <|
   ev_a (ok_iadd X hP (by decide +kernel : decode cL_law 247 = .ok (.iadd, 1)) rfl) <|
   ev_a (ok_ialoads X hP (by decide +kernel : decode cL_law 248 = .ok (.iaload, 1)) rfl) <|
   ev_a (ok_invV X hP hR hd2 hcf (ci := 18) ev_y54 rfl (by decide +kernel : decode cL_law 249 = .ok (.invokevirtual 103, 3)) ev_w1502 ev_w1499 ev_w1500 ev_w1501 ev_w82 ⟨rfl, ev_dn54⟩ (by decide) rfl) <|
   ev_a (ok_no) <|
   ev_a (ok_no) <|
   ev_a (ok_ist X hP (by decide +kernel : decode cL_law 252 = .ok (.istore 6, 2)) (by decide) rfl) <|
   ev_a (ok_no) <|
   ev_a (ok_jmp X hP (by decide +kernel : decode cL_law 254 = .ok (.goto 643, 3)) (by decide)) <|
   ev_a (ok_no) <| ev_a0) <|
  ev_b (
   ev_a (ok_no) <|
   ev_a (ok_ald_n X hP (by decide +kernel : decode cL_law 257 = .ok (.aload_n 1, 1)) rfl rfl) <|
   ev_a (ok_no) <|
   ev_a (ok_no) <|
   ev_a (ok_no) <|
   ev_a (ok_drop X hP (by decide +kernel : decode cL_law 261 = .ok (.pop, 1)) rfl) <|
   ev_a (ok_ald_n X hP (by decide +kernel : decode cL_law 262 = .ok (.aload_n 2, 1)) rfl rfl) <|
   ev_a (ok_no) <|
   ev_a (ok_no) <|
   ev_a (ok_no) <|
   ev_a (ok_drop X hP (by decide +kernel : decode cL_law 266 = .ok (.pop, 1)) rfl) <|
   ev_a (ok_jmp X hP (by decide +kernel : decode cL_law 267 = .ok (.goto 630, 3)) (by decide)) <|
   ev_a (ok_no) <|
   ev_a (ok_no) <|
   ev_a (ok_ald_n X hP (by decide +kernel : decode cL_law 270 = .ok (.aload_n 1, 1)) rfl rfl) <|
   ev_a (ok_ald_n X hP (by decide +kernel : decode cL_law 271 = .ok (.aload_n 3, 1)) rfl rfl) <| ev_a0) <|
  ev_b (
   ev_a (ok_invSW X hP hR hd2 hcf ev_y15 (by decide +kernel : decode cL_law 272 = .ok (.invokestatic 108, 3)) ev_w893 ev_w891 ev_w892 ev_w70 ev_dn15 (by decide) rfl) <|
   ev_a (ok_no) <|
   ev_a (ok_no) <|
   ev_a (ok_ist X hP (by decide +kernel : decode cL_law 275 = .ok (.istore 5, 2)) (by decide) rfl) <|
   ev_a (ok_no) <|
   ev_a (ok_ald_n X hP (by decide +kernel : decode cL_law 277 = .ok (.aload_n 2, 1)) rfl rfl) <|
   ev_a (ok_invV X hP hR hd2 hcf (ci := 18) ev_y41 rfl (by decide +kernel : decode cL_law 278 = .ok (.invokevirtual 111, 3)) ev_w1514 ev_w1511 ev_w1512 ev_w1513 ev_w82 ⟨rfl, ev_dn41⟩ (by decide) rfl) <|
   ev_a (ok_no) <|
   ev_a (ok_no) <|
   ev_a (ok_ist X hP (by decide +kernel : decode cL_law 281 = .ok (.istore 6, 2)) (by decide) rfl) <|
   ev_a (ok_no) <|
   ev_a (ok_jmp X hP (by decide +kernel : decode cL_law 283 = .ok (.goto 614, 3)) (by decide)) <|
   ev_a (ok_no) <|
   ev_a (ok_no) <|
   ev_a (ok_ald_n X hP (by decide +kernel : decode cL_law 286 = .ok (.aload_n 1, 1)) rfl rfl) <|
   ev_a (ok_ald_n X hP (by decide +kernel : decode cL_law 287 = .ok (.aload_n 0, 1)) rfl rfl) <| ev_a0) <|
  ev_b (
   ev_a (ok_ild X hP (by decide +kernel : decode cL_law 288 = .ok (.iload 4, 2)) rfl) <|
   ev_a (ok_no) <|
   ev_a (ok_psh_iconst X hP (by decide +kernel : decode cL_law 290 = .ok (.iconst 1, 1)) rfl) <|
   ev_a (ok_iadd X hP (by decide +kernel : decode cL_law 291 = .ok (.iadd, 1)) rfl) <|
   ev_a (ok_ialoads X hP (by decide +kernel : decode cL_law 292 = .ok (.iaload, 1)) rfl) <|
   ev_a (ok_ald_n X hP (by decide +kernel : decode cL_law 293 = .ok (.aload_n 0, 1)) rfl rfl) <|
   ev_a (ok_ild X hP (by decide +kernel : decode cL_law 294 = .ok (.iload 4, 2)) rfl) <|
   ev_a (ok_no) <|
   ev_a (ok_psh_iconst X hP (by decide +kernel : decode cL_law 296 = .ok (.iconst 2, 1)) rfl) <|
   ev_a (ok_iadd X hP (by decide +kernel : decode cL_law 297 = .ok (.iadd, 1)) rfl) <|
   ev_a (ok_ialoads X hP (by decide +kernel : decode cL_law 298 = .ok (.iaload, 1)) rfl) <|
   ev_a (ok_ald_n X hP (by decide +kernel : decode cL_law 299 = .ok (.aload_n 3, 1)) rfl rfl) <|
   ev_a (ok_no) <|
   ev_a (ok_no) <|
   ev_a (ok_no) <|
   ev_a (ok_ist X hP (by decide +kernel : decode cL_law 303 = .ok (.istore 5, 2)) (by decide) rfl) <| ev_a0) <|
  ev_b (
   ev_a (ok_no) <|
   ev_a (ok_ald_n X hP (by decide +kernel : decode cL_law 305 = .ok (.aload_n 2, 1)) rfl rfl) <|
   ev_a (ok_ald_n X hP (by decide +kernel : decode cL_law 306 = .ok (.aload_n 0, 1)) rfl rfl) <|
   ev_a (ok_ild X hP (by decide +kernel : decode cL_law 307 = .ok (.iload 4, 2)) rfl) <|
   ev_a (ok_no) <|
   ev_a (ok_psh_iconst X hP (by decide +kernel : decode cL_law 309 = .ok (.iconst 1, 1)) rfl) <|
   ev_a (ok_iadd X hP (by decide +kernel : decode cL_law 310 = .ok (.iadd, 1)) rfl) <|
   ev_a (ok_ialoads X hP (by decide +kernel : decode cL_law 311 = .ok (.iaload, 1)) rfl) <|
   ev_a (ok_ald_n X hP (by decide +kernel : decode cL_law 312 = .ok (.aload_n 0, 1)) rfl rfl) <|
   ev_a (ok_ild X hP (by decide +kernel : decode cL_law 313 = .ok (.iload 4, 2)) rfl) <|
   ev_a (ok_no) <|
   ev_a (ok_psh_iconst X hP (by decide +kernel : decode cL_law 315 = .ok (.iconst 2, 1)) rfl) <|
   ev_a (ok_iadd X hP (by decide +kernel : decode cL_law 316 = .ok (.iadd, 1)) rfl) <|
   ev_a (ok_ialoads X hP (by decide +kernel : decode cL_law 317 = .ok (.iaload, 1)) rfl) <|
   ev_a (ok_no) <|
   ev_a (ok_no) <| ev_a0) <|
  ev_b (
   ev_a (ok_no) <|
   ev_a (ok_ist X hP (by decide +kernel : decode cL_law 321 = .ok (.istore 6, 2)) (by decide) rfl) <|
   ev_a (ok_no) <|
   ev_a (ok_jmp X hP (by decide +kernel : decode cL_law 323 = .ok (.goto 574, 3)) (by decide)) <|
   ev_a (ok_no) <|
   ev_a (ok_no) <|
   ev_a (ok_ald_n X hP (by decide +kernel : decode cL_law 326 = .ok (.aload_n 1, 1)) rfl rfl) <|
   ev_a (ok_no) <|
   ev_a (ok_no) <|
   ev_a (ok_no) <|
   ev_a (ok_drop X hP (by decide +kernel : decode cL_law 330 = .ok (.pop, 1)) rfl) <|
   ev_a (ok_ald_n X hP (by decide +kernel : decode cL_law 331 = .ok (.aload_n 2, 1)) rfl rfl) <|
   ev_a (ok_no) <|
   ev_a (ok_no) <|
   ev_a (ok_no) <|
   ev_a (ok_drop X hP (by decide +kernel : decode cL_law 335 = .ok (.pop, 1)) rfl) <| ev_a0) <|
  ev_b (
   ev_a (ok_jmp X hP (by decide +kernel : decode cL_law 336 = .ok (.goto 561, 3)) (by decide)) <|
   ev_a (ok_no) <|
   ev_a (ok_no) <|
   ev_a (ok_ald_n X hP (by decide +kernel : decode cL_law 339 = .ok (.aload_n 1, 1)) rfl rfl) <|
   ev_a (ok_ald_n X hP (by decide +kernel : decode cL_law 340 = .ok (.aload_n 0, 1)) rfl rfl) <|
   ev_a (ok_ild X hP (by decide +kernel : decode cL_law 341 = .ok (.iload 4, 2)) rfl) <|
   ev_a (ok_no) <|
   ev_a (ok_psh_iconst X hP (by decide +kernel : decode cL_law 343 = .ok (.iconst 1, 1)) rfl) <|
   ev_a (ok_iadd X hP (by decide +kernel : decode cL_law 344 = .ok (.iadd, 1)) rfl) <|
   ev_a (ok_ialoads X hP (by decide +kernel : decode cL_law 345 = .ok (.iaload, 1)) rfl) <|
   ev_a (ok_ald_n X hP (by decide +kernel : decode cL_law 346 = .ok (.aload_n 0, 1)) rfl rfl) <|
   ev_a (ok_ild X hP (by decide +kernel : decode cL_law 347 = .ok (.iload 4, 2)) rfl) <|
   ev_a (ok_no) <|
   ev_a (ok_psh_iconst X hP (by decide +kernel : decode cL_law 349 = .ok (.iconst 2, 1)) rfl) <|
   ev_a (ok_iadd X hP (by decide +kernel : decode cL_law 350 = .ok (.iadd, 1)) rfl) <|
   ev_a (ok_ialoads X hP (by decide +kernel : decode cL_law 351 = .ok (.iaload, 1)) rfl) <| ev_a0) <|
  ev_b (
   ev_a (ok_if_eq X hP (by decide +kernel : decode cL_law 352 = .ok (.ifCond .eq 7, 3)) (by decide) rfl) <|
   ev_a (ok_no) <|
   ev_a (ok_no) <|
   ev_a (ok_psh_iconst X hP (by decide +kernel : decode cL_law 355 = .ok (.iconst 1, 1)) rfl) <|
   ev_a (ok_jmp X hP (by decide +kernel : decode cL_law 356 = .ok (.goto 4, 3)) (by decide)) <|
   ev_a (ok_no) <|
   ev_a (ok_no) <|
   ev_a (ok_psh_iconst X hP (by decide +kernel : decode cL_law 359 = .ok (.iconst 0, 1)) rfl) <|
   ev_a (ok_ald_n X hP (by decide +kernel : decode cL_law 360 = .ok (.aload_n 3, 1)) rfl rfl) <|
   ev_a (ok_no) <|
   ev_a (ok_no) <|
   ev_a (ok_no) <|
   ev_a (ok_ist X hP (by decide +kernel : decode cL_law 364 = .ok (.istore 5, 2)) (by decide) rfl) <|
   ev_a (ok_no) <|
   ev_a (ok_ald_n X hP (by decide +kernel : decode cL_law 366 = .ok (.aload_n 2, 1)) rfl rfl) <|
   ev_a (ok_ald_n X hP (by decide +kernel : decode cL_law 367 = .ok (.aload_n 0, 1)) rfl rfl) <| ev_a0) <|
  ev_b (
   ev_a (ok_ild X hP (by decide +kernel : decode cL_law 368 = .ok (.iload 4, 2)) rfl) <|
   ev_a (ok_no) <|
   ev_a (ok_psh_iconst X hP (by decide +kernel : decode cL_law 370 = .ok (.iconst 1, 1)) rfl) <|
   ev_a (ok_iadd X hP (by decide +kernel : decode cL_law 371 = .ok (.iadd, 1)) rfl) <|
   ev_a (ok_ialoads X hP (by decide +kernel : decode cL_law 372 = .ok (.iaload, 1)) rfl) <|
   ev_a (ok_ald_n X hP (by decide +kernel : decode cL_law 373 = .ok (.aload_n 0, 1)) rfl rfl) <|
   ev_a (ok_ild X hP (by decide +kernel : decode cL_law 374 = .ok (.iload 4, 2)) rfl) <|
   ev_a (ok_no) <|
   ev_a (ok_psh_iconst X hP (by decide +kernel : decode cL_law 376 = .ok (.iconst 2, 1)) rfl) <|
   ev_a (ok_iadd X hP (by decide +kernel : decode cL_law 377 = .ok (.iadd, 1)) rfl) <|
   ev_a (ok_ialoads X hP (by decide +kernel : decode cL_law 378 = .ok (.iaload, 1)) rfl) <|
   ev_a (ok_if_eq X hP (by decide +kernel : decode cL_law 379 = .ok (.ifCond .eq 7, 3)) (by decide) rfl) <|
   ev_a (ok_no) <|
   ev_a (ok_no) <|
   ev_a (ok_psh_iconst X hP (by decide +kernel : decode cL_law 382 = .ok (.iconst 1, 1)) rfl) <|
   ev_a (ok_jmp X hP (by decide +kernel : decode cL_law 383 = .ok (.goto 4, 3)) (by decide)) <| ev_a0) <|
  ev_b (
   ev_a (ok_no) <|
   ev_a (ok_no) <|
   ev_a (ok_psh_iconst X hP (by decide +kernel : decode cL_law 386 = .ok (.iconst 0, 1)) rfl) <|
   ev_a (ok_no) <|
   ev_a (ok_no) <|
   ev_a (ok_no) <|
   ev_a (ok_ist X hP (by decide +kernel : decode cL_law 390 = .ok (.istore 6, 2)) (by decide) rfl) <|
   ev_a (ok_no) <|
   ev_a (ok_jmp X hP (by decide +kernel : decode cL_law 392 = .ok (.goto 505, 3)) (by decide)) <|
   ev_a (ok_no) <|
   ev_a (ok_no) <|
   ev_a (ok_ald_n X hP (by decide +kernel : decode cL_law 395 = .ok (.aload_n 1, 1)) rfl rfl) <|
   ev_a (ok_ald_n X hP (by decide +kernel : decode cL_law 396 = .ok (.aload_n 0, 1)) rfl rfl) <|
   ev_a (ok_ild X hP (by decide +kernel : decode cL_law 397 = .ok (.iload 4, 2)) rfl) <|
   ev_a (ok_no) <|
   ev_a (ok_psh_iconst X hP (by decide +kernel : decode cL_law 399 = .ok (.iconst 1, 1)) rfl) <| ev_a0) <|
  ev_b (
   ev_a (ok_iadd X hP (by decide +kernel : decode cL_law 400 = .ok (.iadd, 1)) rfl) <|
   ev_a (ok_ialoads X hP (by decide +kernel : decode cL_law 401 = .ok (.iaload, 1)) rfl) <|
   ev_a (ok_ald_n X hP (by decide +kernel : decode cL_law 402 = .ok (.aload_n 0, 1)) rfl rfl) <|
   ev_a (ok_ild X hP (by decide +kernel : decode cL_law 403 = .ok (.iload 4, 2)) rfl) <|
   ev_a (ok_no) <|
   ev_a (ok_psh_iconst X hP (by decide +kernel : decode cL_law 405 = .ok (.iconst 2, 1)) rfl) <|
   ev_a (ok_iadd X hP (by decide +kernel : decode cL_law 406 = .ok (.iadd, 1)) rfl) <|
   ev_a (ok_ialoads X hP (by decide +kernel : decode cL_law 407 = .ok (.iaload, 1)) rfl) <|
   ev_a (ok_ald_n X hP (by decide +kernel : decode cL_law 408 = .ok (.aload_n 0, 1)) rfl rfl) <|
   ev_a (ok_ild X hP (by decide +kernel : decode cL_law 409 = .ok (.iload 4, 2)) rfl) <|
   ev_a (ok_no) <|
   ev_a (ok_psh_iconst X hP (by decide +kernel : decode cL_law 411 = .ok (.iconst 3, 1)) rfl) <|
   ev_a (ok_iadd X hP (by decide +kernel : decode cL_law 412 = .ok (.iadd, 1)) rfl) <|
   ev_a (ok_ialoads X hP (by decide +kernel : decode cL_law 413 = .ok (.iaload, 1)) rfl) <|
   ev_a (ok_ald_n X hP (by decide +kernel : decode cL_law 414 = .ok (.aload_n 3, 1)) rfl rfl) <|
   ev_a (ok_no) <| ev_a0) <|
  ev_b (
   ev_a (ok_no) <|
   ev_a (ok_no) <|
   ev_a (ok_ist X hP (by decide +kernel : decode cL_law 418 = .ok (.istore 5, 2)) (by decide) rfl) <|
   ev_a (ok_no) <|
   ev_a (ok_ald_n X hP (by decide +kernel : decode cL_law 420 = .ok (.aload_n 2, 1)) rfl rfl) <|
   ev_a (ok_ald_n X hP (by decide +kernel : decode cL_law 421 = .ok (.aload_n 0, 1)) rfl rfl) <|
   ev_a (ok_ild X hP (by decide +kernel : decode cL_law 422 = .ok (.iload 4, 2)) rfl) <|
   ev_a (ok_no) <|
   ev_a (ok_psh_iconst X hP (by decide +kernel : decode cL_law 424 = .ok (.iconst 1, 1)) rfl) <|
   ev_a (ok_iadd X hP (by decide +kernel : decode cL_law 425 = .ok (.iadd, 1)) rfl) <|
   ev_a (ok_ialoads X hP (by decide +kernel : decode cL_law 426 = .ok (.iaload, 1)) rfl) <|
   ev_a (ok_ald_n X hP (by decide +kernel : decode cL_law 427 = .ok (.aload_n 0, 1)) rfl rfl) <|
   ev_a (ok_ild X hP (by decide +kernel : decode cL_law 428 = .ok (.iload 4, 2)) rfl) <|
   ev_a (ok_no) <|
   ev_a (ok_psh_iconst X hP (by decide +kernel : decode cL_law 430 = .ok (.iconst 2, 1)) rfl) <|
   ev_a (ok_iadd X hP (by decide +kernel : decode cL_law 431 = .ok (.iadd, 1)) rfl) <| ev_a0) <|
  ev_b (
   ev_a (ok_ialoads X hP (by decide +kernel : decode cL_law 432 = .ok (.iaload, 1)) rfl) <|
   ev_a (ok_ald_n X hP (by decide +kernel : decode cL_law 433 = .ok (.aload_n 0, 1)) rfl rfl) <|
   ev_a (ok_ild X hP (by decide +kernel : decode cL_law 434 = .ok (.iload 4, 2)) rfl) <|
   ev_a (ok_no) <|
   ev_a (ok_psh_iconst X hP (by decide +kernel : decode cL_law 436 = .ok (.iconst 3, 1)) rfl) <|
   ev_a (ok_iadd X hP (by decide +kernel : decode cL_law 437 = .ok (.iadd, 1)) rfl) <|
   ev_a (ok_ialoads X hP (by decide +kernel : decode cL_law 438 = .ok (.iaload, 1)) rfl) <|
   ev_a (ok_no) <|
   ev_a (ok_no) <|
   ev_a (ok_no) <|
   ev_a (ok_ist X hP (by decide +kernel : decode cL_law 442 = .ok (.istore 6, 2)) (by decide) rfl) <|
   ev_a (ok_no) <|
   ev_a (ok_jmp X hP (by decide +kernel : decode cL_law 444 = .ok (.goto 453, 3)) (by decide)) <|
   ev_a (ok_no) <|
   ev_a (ok_no) <|
   ev_a (ok_ald_n X hP (by decide +kernel : decode cL_law 447 = .ok (.aload_n 1, 1)) rfl rfl) <| ev_a0) <|
  ev_b (
   ev_a (ok_ald_n X hP (by decide +kernel : decode cL_law 448 = .ok (.aload_n 3, 1)) rfl rfl) <|
   ev_a (ok_no) <|
   ev_a (ok_no) <|
   ev_a (ok_no) <|
   ev_a (ok_ist X hP (by decide +kernel : decode cL_law 452 = .ok (.istore 5, 2)) (by decide) rfl) <|
   ev_a (ok_no) <|
   ev_a (ok_ald_n X hP (by decide +kernel : decode cL_law 454 = .ok (.aload_n 2, 1)) rfl rfl) <|
   ev_a (ok_no) <|
   ev_a (ok_no) <|
   ev_a (ok_no) <|
   ev_a (ok_ist X hP (by decide +kernel : decode cL_law 458 = .ok (.istore 6, 2)) (by decide) rfl) <|
   ev_a (ok_no) <|
   ev_a (ok_jmp X hP (by decide +kernel : decode cL_law 460 = .ok (.goto 437, 3)) (by decide)) <|
   ev_a (ok_no) <|
   ev_a (ok_no) <|
   ev_a (ok_ald_n X hP (by decide +kernel : decode cL_law 463 = .ok (.aload_n 1, 1)) rfl rfl) <| ev_a0) <|
  ev_b (
   ev_a (ok_ald_n X hP (by decide +kernel : decode cL_law 464 = .ok (.aload_n 0, 1)) rfl rfl) <|
   ev_a (ok_ild X hP (by decide +kernel : decode cL_law 465 = .ok (.iload 4, 2)) rfl) <|
   ev_a (ok_no) <|
   ev_a (ok_psh_iconst X hP (by decide +kernel : decode cL_law 467 = .ok (.iconst 1, 1)) rfl) <|
   ev_a (ok_iadd X hP (by decide +kernel : decode cL_law 468 = .ok (.iadd, 1)) rfl) <|
   ev_a (ok_ialoads X hP (by decide +kernel : decode cL_law 469 = .ok (.iaload, 1)) rfl) <|
   ev_a (ok_ald_n X hP (by decide +kernel : decode cL_law 470 = .ok (.aload_n 3, 1)) rfl rfl) <|
   ev_a (ok_no) <|
   ev_a (ok_no) <|
   ev_a (ok_no) <|
   ev_a (ok_ist X hP (by decide +kernel : decode cL_law 474 = .ok (.istore 5, 2)) (by decide) rfl) <|
   ev_a (ok_no) <|
   ev_a (ok_ald_n X hP (by decide +kernel : decode cL_law 476 = .ok (.aload_n 2, 1)) rfl rfl) <|
   ev_a (ok_ald_n X hP (by decide +kernel : decode cL_law 477 = .ok (.aload_n 0, 1)) rfl rfl) <|
   ev_a (ok_ild X hP (by decide +kernel : decode cL_law 478 = .ok (.iload 4, 2)) rfl) <|
   ev_a (ok_no) <| ev_a0) <|
  ev_b (
   ev_a (ok_psh_iconst X hP (by decide +kernel : decode cL_law 480 = .ok (.iconst 1, 1)) rfl) <|
   ev_a (ok_iadd X hP (by decide +kernel : decode cL_law 481 = .ok (.iadd, 1)) rfl) <|
   ev_a (ok_ialoads X hP (by decide +kernel : decode cL_law 482 = .ok (.iaload, 1)) rfl) <|
   ev_a (ok_no) <|
   ev_a (ok_no) <|
   ev_a (ok_no) <|
   ev_a (ok_ist X hP (by decide +kernel : decode cL_law 486 = .ok (.istore 6, 2)) (by decide) rfl) <|
   ev_a (ok_no) <|
   ev_a (ok_jmp X hP (by decide +kernel : decode cL_law 488 = .ok (.goto 409, 3)) (by decide)) <|
   ev_a (ok_no) <|
   ev_a (ok_no) <|
   ev_a (ok_ald_n X hP (by decide +kernel : decode cL_law 491 = .ok (.aload_n 1, 1)) rfl rfl) <|
   ev_a (ok_ald_n X hP (by decide +kernel : decode cL_law 492 = .ok (.aload_n 0, 1)) rfl rfl) <|
   ev_a (ok_ild X hP (by decide +kernel : decode cL_law 493 = .ok (.iload 4, 2)) rfl) <|
   ev_a (ok_no) <|
   ev_a (ok_psh_iconst X hP (by decide +kernel : decode cL_law 495 = .ok (.iconst 1, 1)) rfl) <| ev_a0) <|
  ev_b (
   ev_a (ok_iadd X hP (by decide +kernel : decode cL_law 496 = .ok (.iadd, 1)) rfl) <|
   ev_a (ok_ialoads X hP (by decide +kernel : decode cL_law 497 = .ok (.iaload, 1)) rfl) <|
   ev_a (ok_ald_n X hP (by decide +kernel : decode cL_law 498 = .ok (.aload_n 3, 1)) rfl rfl) <|
   ev_a (ok_no) <|
   ev_a (ok_no) <|
   ev_a (ok_no) <|
   ev_a (ok_ist X hP (by decide +kernel : decode cL_law 502 = .ok (.istore 5, 2)) (by decide) rfl) <|
   ev_a (ok_no) <|
   ev_a (ok_ald_n X hP (by decide +kernel : decode cL_law 504 = .ok (.aload_n 2, 1)) rfl rfl) <|
   ev_a (ok_ald_n X hP (by decide +kernel : decode cL_law 505 = .ok (.aload_n 0, 1)) rfl rfl) <|
   ev_a (ok_ild X hP (by decide +kernel : decode cL_law 506 = .ok (.iload 4, 2)) rfl) <|
   ev_a (ok_no) <|
   ev_a (ok_psh_iconst X hP (by decide +kernel : decode cL_law 508 = .ok (.iconst 1, 1)) rfl) <|
   ev_a (ok_iadd X hP (by decide +kernel : decode cL_law 509 = .ok (.iadd, 1)) rfl) <|
   ev_a (ok_ialoads X hP (by decide +kernel : decode cL_law 510 = .ok (.iaload, 1)) rfl) <|
   ev_a (ok_no) <| ev_a0) <|
  ev_b (
   ev_a (ok_no) <|
   ev_a (ok_no) <|
   ev_a (ok_ist X hP (by decide +kernel : decode cL_law 514 = .ok (.istore 6, 2)) (by decide) rfl) <|
   ev_a (ok_no) <|
   ev_a (ok_jmp X hP (by decide +kernel : decode cL_law 516 = .ok (.goto 381, 3)) (by decide)) <|
   ev_a (ok_no) <|
   ev_a (ok_no) <|
   ev_a (ok_ald_n X hP (by decide +kernel : decode cL_law 519 = .ok (.aload_n 1, 1)) rfl rfl) <|
   ev_a (ok_no) <|
   ev_a (ok_no) <|
   ev_a (ok_no) <|
   ev_a (ok_drop X hP (by decide +kernel : decode cL_law 523 = .ok (.pop, 1)) rfl) <|
   ev_a (ok_ald_n X hP (by decide +kernel : decode cL_law 524 = .ok (.aload_n 2, 1)) rfl rfl) <|
   ev_a (ok_no) <|
   ev_a (ok_no) <|
   ev_a (ok_no) <| ev_a0) <|
  ev_b (
   ev_a (ok_drop X hP (by decide +kernel : decode cL_law 528 = .ok (.pop, 1)) rfl) <|
   ev_a (ok_jmp X hP (by decide +kernel : decode cL_law 529 = .ok (.goto 368, 3)) (by decide)) <|
   ev_a (ok_no) <|
   ev_a (ok_no) <|
   ev_a (ok_ald_n X hP (by decide +kernel : decode cL_law 532 = .ok (.aload_n 1, 1)) rfl rfl) <|
   ev_a (ok_ald_n X hP (by decide +kernel : decode cL_law 533 = .ok (.aload_n 0, 1)) rfl rfl) <|
   ev_a (ok_ild X hP (by decide +kernel : decode cL_law 534 = .ok (.iload 4, 2)) rfl) <|
   ev_a (ok_no) <|
   ev_a (ok_psh_iconst X hP (by decide +kernel : decode cL_law 536 = .ok (.iconst 1, 1)) rfl) <|
   ev_a (ok_iadd X hP (by decide +kernel : decode cL_law 537 = .ok (.iadd, 1)) rfl) <|
   ev_a (ok_ialoads X hP (by decide +kernel : decode cL_law 538 = .ok (.iaload, 1)) rfl) <|
   ev_a (ok_ald_n X hP (by decide +kernel : decode cL_law 539 = .ok (.aload_n 0, 1)) rfl rfl) <|
   ev_a (ok_ild X hP (by decide +kernel : decode cL_law 540 = .ok (.iload 4, 2)) rfl) <|
   ev_a (ok_no) <|
   ev_a (ok_psh_iconst X hP (by decide +kernel : decode cL_law 542 = .ok (.iconst 2, 1)) rfl) <|
   ev_a (ok_iadd X hP (by decide +kernel : decode cL_law 543 = .ok (.iadd, 1)) rfl) <| ev_a0) <|
  ev_b (
   ev_a (ok_ialoads X hP (by decide +kernel : decode cL_law 544 = .ok (.iaload, 1)) rfl) <|
   ev_a (ok_ald_n X hP (by decide +kernel : decode cL_law 545 = .ok (.aload_n 3, 1)) rfl rfl) <|
   ev_a (ok_no) <|
   ev_a (ok_no) <|
   ev_a (ok_no) <|
   ev_a (ok_ist X hP (by decide +kernel : decode cL_law 549 = .ok (.istore 5, 2)) (by decide) rfl) <|
   ev_a (ok_no) <|
   ev_a (ok_ald_n X hP (by decide +kernel : decode cL_law 551 = .ok (.aload_n 2, 1)) rfl rfl) <|
   ev_a (ok_ald_n X hP (by decide +kernel : decode cL_law 552 = .ok (.aload_n 0, 1)) rfl rfl) <|
   ev_a (ok_ild X hP (by decide +kernel : decode cL_law 553 = .ok (.iload 4, 2)) rfl) <|
   ev_a (ok_no) <|
   ev_a (ok_psh_iconst X hP (by decide +kernel : decode cL_law 555 = .ok (.iconst 1, 1)) rfl) <|
   ev_a (ok_iadd X hP (by decide +kernel : decode cL_law 556 = .ok (.iadd, 1)) rfl) <|
   ev_a (ok_ialoads X hP (by decide +kernel : decode cL_law 557 = .ok (.iaload, 1)) rfl) <|
   ev_a (ok_ald_n X hP (by decide +kernel : decode cL_law 558 = .ok (.aload_n 0, 1)) rfl rfl) <|
   ev_a (ok_ild X hP (by decide +kernel : decode cL_law 559 = .ok (.iload 4, 2)) rfl) <| ev_a0) <|
  ev_b (
   ev_a (ok_no) <|
   ev_a (ok_psh_iconst X hP (by decide +kernel : decode cL_law 561 = .ok (.iconst 2, 1)) rfl) <|
   ev_a (ok_iadd X hP (by decide +kernel : decode cL_law 562 = .ok (.iadd, 1)) rfl) <|
   ev_a (ok_ialoads X hP (by decide +kernel : decode cL_law 563 = .ok (.iaload, 1)) rfl) <|
   ev_a (ok_no) <|
   ev_a (ok_no) <|
   ev_a (ok_no) <|
   ev_a (ok_ist X hP (by decide +kernel : decode cL_law 567 = .ok (.istore 6, 2)) (by decide) rfl) <|
   ev_a (ok_no) <|
   ev_a (ok_jmp X hP (by decide +kernel : decode cL_law 569 = .ok (.goto 328, 3)) (by decide)) <|
   ev_a (ok_no) <|
   ev_a (ok_no) <|
   ev_a (ok_ald_n X hP (by decide +kernel : decode cL_law 572 = .ok (.aload_n 1, 1)) rfl rfl) <|
   ev_a (ok_ald_n X hP (by decide +kernel : decode cL_law 573 = .ok (.aload_n 0, 1)) rfl rfl) <|
   ev_a (ok_ild X hP (by decide +kernel : decode cL_law 574 = .ok (.iload 4, 2)) rfl) <|
   ev_a (ok_no) <| ev_a0) <|
  ev_b (
   ev_a (ok_psh_iconst X hP (by decide +kernel : decode cL_law 576 = .ok (.iconst 1, 1)) rfl) <|
   ev_a (ok_iadd X hP (by decide +kernel : decode cL_law 577 = .ok (.iadd, 1)) rfl) <|
   ev_a (ok_ialoads X hP (by decide +kernel : decode cL_law 578 = .ok (.iaload, 1)) rfl) <|
   ev_a (ok_ald_n X hP (by decide +kernel : decode cL_law 579 = .ok (.aload_n 0, 1)) rfl rfl) <|
   ev_a (ok_ild X hP (by decide +kernel : decode cL_law 580 = .ok (.iload 4, 2)) rfl) <|
   ev_a (ok_no) <|
   ev_a (ok_psh_iconst X hP (by decide +kernel : decode cL_law 582 = .ok (.iconst 2, 1)) rfl) <|
   ev_a (ok_iadd X hP (by decide +kernel : decode cL_law 583 = .ok (.iadd, 1)) rfl) <|
   ev_a (ok_ialoads X hP (by decide +kernel : decode cL_law 584 = .ok (.iaload, 1)) rfl) <|
   ev_a (ok_ald_n X hP (by decide +kernel : decode cL_law 585 = .ok (.aload_n 3, 1)) rfl rfl) <|
   ev_a (ok_no) <|
   ev_a (ok_no) <|
   ev_a (ok_no) <|
   ev_a (ok_ist X hP (by decide +kernel : decode cL_law 589 = .ok (.istore 5, 2)) (by decide) rfl) <|
   ev_a (ok_no) <|
   ev_a (ok_ald_n X hP (by decide +kernel : decode cL_law 591 = .ok (.aload_n 2, 1)) rfl rfl) <| ev_a0) <|
  ev_b (
   ev_a (ok_ald_n X hP (by decide +kernel : decode cL_law 592 = .ok (.aload_n 0, 1)) rfl rfl) <|
   ev_a (ok_ild X hP (by decide +kernel : decode cL_law 593 = .ok (.iload 4, 2)) rfl) <|
   ev_a (ok_no) <|
   ev_a (ok_psh_iconst X hP (by decide +kernel : decode cL_law 595 = .ok (.iconst 1, 1)) rfl) <|
   ev_a (ok_iadd X hP (by decide +kernel : decode cL_law 596 = .ok (.iadd, 1)) rfl) <|
   ev_a (ok_ialoads X hP (by decide +kernel : decode cL_law 597 = .ok (.iaload, 1)) rfl) <|
   ev_a (ok_ald_n X hP (by decide +kernel : decode cL_law 598 = .ok (.aload_n 0, 1)) rfl rfl) <|
   ev_a (ok_ild X hP (by decide +kernel : decode cL_law 599 = .ok (.iload 4, 2)) rfl) <|
   ev_a (ok_no) <|
   ev_a (ok_psh_iconst X hP (by decide +kernel : decode cL_law 601 = .ok (.iconst 2, 1)) rfl) <|
   ev_a (ok_iadd X hP (by decide +kernel : decode cL_law 602 = .ok (.iadd, 1)) rfl) <|
   ev_a (ok_ialoads X hP (by decide +kernel : decode cL_law 603 = .ok (.iaload, 1)) rfl) <|
   ev_a (ok_no) <|
   ev_a (ok_no) <|
   ev_a (ok_no) <|
   ev_a (ok_ist X hP (by decide +kernel : decode cL_law 607 = .ok (.istore 6, 2)) (by decide) rfl) <| ev_a0) <|
  ev_b (
   ev_a (ok_no) <|
   ev_a (ok_jmp X hP (by decide +kernel : decode cL_law 609 = .ok (.goto 288, 3)) (by decide)) <|
   ev_a (ok_no) <|
   ev_a (ok_no) <|
   ev_a (ok_ald_n X hP (by decide +kernel : decode cL_law 612 = .ok (.aload_n 1, 1)) rfl rfl) <|
   ev_a (ok_ald_n X hP (by decide +kernel : decode cL_law 613 = .ok (.aload_n 0, 1)) rfl rfl) <|
   ev_a (ok_ild X hP (by decide +kernel : decode cL_law 614 = .ok (.iload 4, 2)) rfl) <|
   ev_a (ok_no) <|
   ev_a (ok_psh_iconst X hP (by decide +kernel : decode cL_law 616 = .ok (.iconst 1, 1)) rfl) <|
   ev_a (ok_iadd X hP (by decide +kernel : decode cL_law 617 = .ok (.iadd, 1)) rfl) <|
   ev_a (ok_ialoads X hP (by decide +kernel : decode cL_law 618 = .ok (.iaload, 1)) rfl) <|
   ev_a (ok_ald_n X hP (by decide +kernel : decode cL_law 619 = .ok (.aload_n 3, 1)) rfl rfl) <|
   ev_a (ok_no) <|
   ev_a (ok_no) <|
   ev_a (ok_no) <|
   ev_a (ok_ist X hP (by decide +kernel : decode cL_law 623 = .ok (.istore 5, 2)) (by decide) rfl) <| ev_a0) <|
  ev_b (
   ev_a (ok_no) <|
   ev_a (ok_ald_n X hP (by decide +kernel : decode cL_law 625 = .ok (.aload_n 2, 1)) rfl rfl) <|
   ev_a (ok_ald_n X hP (by decide +kernel : decode cL_law 626 = .ok (.aload_n 0, 1)) rfl rfl) <|
   ev_a (ok_ild X hP (by decide +kernel : decode cL_law 627 = .ok (.iload 4, 2)) rfl) <|
   ev_a (ok_no) <|
   ev_a (ok_psh_iconst X hP (by decide +kernel : decode cL_law 629 = .ok (.iconst 1, 1)) rfl) <|
   ev_a (ok_iadd X hP (by decide +kernel : decode cL_law 630 = .ok (.iadd, 1)) rfl) <|
   ev_a (ok_ialoads X hP (by decide +kernel : decode cL_law 631 = .ok (.iaload, 1)) rfl) <|
   ev_a (ok_no) <|
   ev_a (ok_no) <|
   ev_a (ok_no) <|
   ev_a (ok_ist X hP (by decide +kernel : decode cL_law 635 = .ok (.istore 6, 2)) (by decide) rfl) <|
   ev_a (ok_no) <|
   ev_a (ok_jmp X hP (by decide +kernel : decode cL_law 637 = .ok (.goto 260, 3)) (by decide)) <|
   ev_a (ok_no) <|
   ev_a (ok_no) <| ev_a0) <|
  ev_b (
   ev_a (ok_ald_n X hP (by decide +kernel : decode cL_law 640 = .ok (.aload_n 1, 1)) rfl rfl) <|
   ev_a (ok_no) <|
   ev_a (ok_no) <|
   ev_a (ok_no) <|
   ev_a (ok_drop X hP (by decide +kernel : decode cL_law 644 = .ok (.pop, 1)) rfl) <|
   ev_a (ok_ald_n X hP (by decide +kernel : decode cL_law 645 = .ok (.aload_n 2, 1)) rfl rfl) <|
   ev_a (ok_no) <|
   ev_a (ok_no) <|
   ev_a (ok_no) <|
   ev_a (ok_drop X hP (by decide +kernel : decode cL_law 649 = .ok (.pop, 1)) rfl) <|
   ev_a (ok_jmp X hP (by decide +kernel : decode cL_law 650 = .ok (.goto 247, 3)) (by decide)) <|
   ev_a (ok_no) <|
   ev_a (ok_no) <|
   ev_a (ok_ald_n X hP (by decide +kernel : decode cL_law 653 = .ok (.aload_n 1, 1)) rfl rfl) <|
   ev_a (ok_ald_n X hP (by decide +kernel : decode cL_law 654 = .ok (.aload_n 0, 1)) rfl rfl) <|
   ev_a (ok_ild X hP (by decide +kernel : decode cL_law 655 = .ok (.iload 4, 2)) rfl) <| ev_a0) <|
  ev_b (
   ev_a (ok_no) <|
   ev_a (ok_psh_iconst X hP (by decide +kernel : decode cL_law 657 = .ok (.iconst 1, 1)) rfl) <|
   ev_a (ok_iadd X hP (by decide +kernel : decode cL_law 658 = .ok (.iadd, 1)) rfl) <|
   ev_a (ok_ialoads X hP (by decide +kernel : decode cL_law 659 = .ok (.iaload, 1)) rfl) <|
   ev_a (ok_ald_n X hP (by decide +kernel : decode cL_law 660 = .ok (.aload_n 3, 1)) rfl rfl) <|
   ev_a (ok_no) <|
   ev_a (ok_no) <|
   ev_a (ok_no) <|
   ev_a (ok_ist X hP (by decide +kernel : decode cL_law 664 = .ok (.istore 5, 2)) (by decide) rfl) <|
   ev_a (ok_no) <|
   ev_a (ok_ald_n X hP (by decide +kernel : decode cL_law 666 = .ok (.aload_n 2, 1)) rfl rfl) <|
   ev_a (ok_ald_n X hP (by decide +kernel : decode cL_law 667 = .ok (.aload_n 0, 1)) rfl rfl) <|
   ev_a (ok_ild X hP (by decide +kernel : decode cL_law 668 = .ok (.iload 4, 2)) rfl) <|
   ev_a (ok_no) <|
   ev_a (ok_psh_iconst X hP (by decide +kernel : decode cL_law 670 = .ok (.iconst 1, 1)) rfl) <|
   ev_a (ok_iadd X hP (by decide +kernel : decode cL_law 671 = .ok (.iadd, 1)) rfl) <| ev_a0) <|
  ev_b (
   ev_a (ok_ialoads X hP (by decide +kernel : decode cL_law 672 = .ok (.iaload, 1)) rfl) <|
   ev_a (ok_no) <|
   ev_a (ok_no) <|
   ev_a (ok_no) <|
   ev_a (ok_ist X hP (by decide +kernel : decode cL_law 676 = .ok (.istore 6, 2)) (by decide) rfl) <|
   ev_a (ok_no) <|
   ev_a (ok_jmp X hP (by decide +kernel : decode cL_law 678 = .ok (.goto 219, 3)) (by decide)) <|
   ev_a (ok_no) <|
   ev_a (ok_no) <|
   ev_a (ok_ald_n X hP (by decide +kernel : decode cL_law 681 = .ok (.aload_n 1, 1)) rfl rfl) <|
   ev_a (ok_ald_n X hP (by decide +kernel : decode cL_law 682 = .ok (.aload_n 0, 1)) rfl rfl) <|
   ev_a (ok_ild X hP (by decide +kernel : decode cL_law 683 = .ok (.iload 4, 2)) rfl) <|
   ev_a (ok_no) <|
   ev_a (ok_psh_iconst X hP (by decide +kernel : decode cL_law 685 = .ok (.iconst 1, 1)) rfl) <|
   ev_a (ok_iadd X hP (by decide +kernel : decode cL_law 686 = .ok (.iadd, 1)) rfl) <|
   ev_a (ok_ialoads X hP (by decide +kernel : decode cL_law 687 = .ok (.iaload, 1)) rfl) <| ev_a0) <|
  ev_b (
   ev_a (ok_ald_n X hP (by decide +kernel : decode cL_law 688 = .ok (.aload_n 3, 1)) rfl rfl) <|
   ev_a (ok_no) <|
   ev_a (ok_no) <|
   ev_a (ok_no) <|
   ev_a (ok_ist X hP (by decide +kernel : decode cL_law 692 = .ok (.istore 5, 2)) (by decide) rfl) <|
   ev_a (ok_no) <|
   ev_a (ok_ald_n X hP (by decide +kernel : decode cL_law 694 = .ok (.aload_n 2, 1)) rfl rfl) <|
   ev_a (ok_ald_n X hP (by decide +kernel : decode cL_law 695 = .ok (.aload_n 0, 1)) rfl rfl) <|
   ev_a (ok_ild X hP (by decide +kernel : decode cL_law 696 = .ok (.iload 4, 2)) rfl) <|
   ev_a (ok_no) <|
   ev_a (ok_psh_iconst X hP (by decide +kernel : decode cL_law 698 = .ok (.iconst 1, 1)) rfl) <|
   ev_a (ok_iadd X hP (by decide +kernel : decode cL_law 699 = .ok (.iadd, 1)) rfl) <|
   ev_a (ok_ialoads X hP (by decide +kernel : decode cL_law 700 = .ok (.iaload, 1)) rfl) <|
   ev_a (ok_no) <|
   ev_a (ok_no) <|
   ev_a (ok_no) <| ev_a0) <|
  ev_b (
   ev_a (ok_ist X hP (by decide +kernel : decode cL_law 704 = .ok (.istore 6, 2)) (by decide) rfl) <|
   ev_a (ok_no) <|
   ev_a (ok_jmp X hP (by decide +kernel : decode cL_law 706 = .ok (.goto 191, 3)) (by decide)) <|
   ev_a (ok_no) <|
   ev_a (ok_no) <|
   ev_a (ok_ald_n X hP (by decide +kernel : decode cL_law 709 = .ok (.aload_n 1, 1)) rfl rfl) <|
   ev_a (ok_no) <|
   ev_a (ok_no) <|
   ev_a (ok_no) <|
   ev_a (ok_no) <|
   ev_a (ok_ald_n X hP (by decide +kernel : decode cL_law 714 = .ok (.aload_n 2, 1)) rfl rfl) <|
   ev_a (ok_no) <|
   ev_a (ok_no) <|
   ev_a (ok_no) <|
   ev_a (ok_no) <|
   ev_a (ok_jmp X hP (by decide +kernel : decode cL_law 719 = .ok (.goto 178, 3)) (by decide)) <| ev_a0) <|
  ev_b (
   ev_a (ok_no) <|
   ev_a (ok_no) <|
   ev_a (ok_ald_n X hP (by decide +kernel : decode cL_law 722 = .ok (.aload_n 1, 1)) rfl rfl) <|
   ev_a (ok_ald_n X hP (by decide +kernel : decode cL_law 723 = .ok (.aload_n 0, 1)) rfl rfl) <|
   ev_a (ok_ild X hP (by decide +kernel : decode cL_law 724 = .ok (.iload 4, 2)) rfl) <|
   ev_a (ok_no) <|
   ev_a (ok_psh_iconst X hP (by decide +kernel : decode cL_law 726 = .ok (.iconst 1, 1)) rfl) <|
   ev_a (ok_iadd X hP (by decide +kernel : decode cL_law 727 = .ok (.iadd, 1)) rfl) <|
   ev_a (ok_ialoads X hP (by decide +kernel : decode cL_law 728 = .ok (.iaload, 1)) rfl) <|
   ev_a (ok_ald_n X hP (by decide +kernel : decode cL_law 729 = .ok (.aload_n 0, 1)) rfl rfl) <|
   ev_a (ok_ild X hP (by decide +kernel : decode cL_law 730 = .ok (.iload 4, 2)) rfl) <|
   ev_a (ok_no) <|
   ev_a (ok_psh_iconst X hP (by decide +kernel : decode cL_law 732 = .ok (.iconst 2, 1)) rfl) <|
   ev_a (ok_iadd X hP (by decide +kernel : decode cL_law 733 = .ok (.iadd, 1)) rfl) <|
   ev_a (ok_ialoads X hP (by decide +kernel : decode cL_law 734 = .ok (.iaload, 1)) rfl) <|
   ev_a (ok_ald_n X hP (by decide +kernel : decode cL_law 735 = .ok (.aload_n 0, 1)) rfl rfl) <| ev_a0) <|
  ev_b (
   ev_a (ok_ild X hP (by decide +kernel : decode cL_law 736 = .ok (.iload 4, 2)) rfl) <|
   ev_a (ok_no) <|
   ev_a (ok_psh_iconst X hP (by decide +kernel : decode cL_law 738 = .ok (.iconst 3, 1)) rfl) <|
   ev_a (ok_iadd X hP (by decide +kernel : decode cL_law 739 = .ok (.iadd, 1)) rfl) <|
   ev_a (ok_ialoads X hP (by decide +kernel : decode cL_law 740 = .ok (.iaload, 1)) rfl) <|
   ev_a (ok_ald_n X hP (by decide +kernel : decode cL_law 741 = .ok (.aload_n 3, 1)) rfl rfl) <|
   ev_a (ok_no) <|
   ev_a (ok_no) <|
   ev_a (ok_no) <|
   ev_a (ok_ist X hP (by decide +kernel : decode cL_law 745 = .ok (.istore 5, 2)) (by decide) rfl) <|
   ev_a (ok_no) <|
   ev_a (ok_ald_n X hP (by decide +kernel : decode cL_law 747 = .ok (.aload_n 2, 1)) rfl rfl) <|
   ev_a (ok_ald_n X hP (by decide +kernel : decode cL_law 748 = .ok (.aload_n 0, 1)) rfl rfl) <|
   ev_a (ok_ild X hP (by decide +kernel : decode cL_law 749 = .ok (.iload 4, 2)) rfl) <|
   ev_a (ok_no) <|
   ev_a (ok_psh_iconst X hP (by decide +kernel : decode cL_law 751 = .ok (.iconst 1, 1)) rfl) <| ev_a0) <|
  ev_b (
   ev_a (ok_iadd X hP (by decide +kernel : decode cL_law 752 = .ok (.iadd, 1)) rfl) <|
   ev_a (ok_ialoads X hP (by decide +kernel : decode cL_law 753 = .ok (.iaload, 1)) rfl) <|
   ev_a (ok_ald_n X hP (by decide +kernel : decode cL_law 754 = .ok (.aload_n 0, 1)) rfl rfl) <|
   ev_a (ok_ild X hP (by decide +kernel : decode cL_law 755 = .ok (.iload 4, 2)) rfl) <|
   ev_a (ok_no) <|
   ev_a (ok_psh_iconst X hP (by decide +kernel : decode cL_law 757 = .ok (.iconst 2, 1)) rfl) <|
   ev_a (ok_iadd X hP (by decide +kernel : decode cL_law 758 = .ok (.iadd, 1)) rfl) <|
   ev_a (ok_ialoads X hP (by decide +kernel : decode cL_law 759 = .ok (.iaload, 1)) rfl) <|
   ev_a (ok_ald_n X hP (by decide +kernel : decode cL_law 760 = .ok (.aload_n 0, 1)) rfl rfl) <|
   ev_a (ok_ild X hP (by decide +kernel : decode cL_law 761 = .ok (.iload 4, 2)) rfl) <|
   ev_a (ok_no) <|
   ev_a (ok_psh_iconst X hP (by decide +kernel : decode cL_law 763 = .ok (.iconst 3, 1)) rfl) <|
   ev_a (ok_iadd X hP (by decide +kernel : decode cL_law 764 = .ok (.iadd, 1)) rfl) <|
   ev_a (ok_ialoads X hP (by decide +kernel : decode cL_law 765 = .ok (.iaload, 1)) rfl) <|
   ev_a (ok_no) <|
   ev_a (ok_no) <| ev_a0) <|
  ev_b (
   ev_a (ok_no) <|
   ev_a (ok_ist X hP (by decide +kernel : decode cL_law 769 = .ok (.istore 6, 2)) (by decide) rfl) <|
   ev_a (ok_no) <|
   ev_a (ok_jmp X hP (by decide +kernel : decode cL_law 771 = .ok (.goto 126, 3)) (by decide)) <|
   ev_a (ok_no) <|
   ev_a (ok_no) <|
   ev_a (ok_ald_n X hP (by decide +kernel : decode cL_law 774 = .ok (.aload_n 1, 1)) rfl rfl) <|
   ev_a (ok_ald_n X hP (by decide +kernel : decode cL_law 775 = .ok (.aload_n 0, 1)) rfl rfl) <|
   ev_a (ok_ild X hP (by decide +kernel : decode cL_law 776 = .ok (.iload 4, 2)) rfl) <|
   ev_a (ok_no) <|
   ev_a (ok_psh_iconst X hP (by decide +kernel : decode cL_law 778 = .ok (.iconst 1, 1)) rfl) <|
   ev_a (ok_iadd X hP (by decide +kernel : decode cL_law 779 = .ok (.iadd, 1)) rfl) <|
   ev_a (ok_ialoads X hP (by decide +kernel : decode cL_law 780 = .ok (.iaload, 1)) rfl) <|
   ev_a (ok_ald_n X hP (by decide +kernel : decode cL_law 781 = .ok (.aload_n 3, 1)) rfl rfl) <|
   ev_a (ok_no) <|
   ev_a (ok_no) <| ev_a0) <|
  ev_b (
   ev_a (ok_no) <|
   ev_a (ok_ist X hP (by decide +kernel : decode cL_law 785 = .ok (.istore 5, 2)) (by decide) rfl) <|
   ev_a (ok_no) <|
   ev_a (ok_ald_n X hP (by decide +kernel : decode cL_law 787 = .ok (.aload_n 2, 1)) rfl rfl) <|
   ev_a (ok_ald_n X hP (by decide +kernel : decode cL_law 788 = .ok (.aload_n 0, 1)) rfl rfl) <|
   ev_a (ok_ild X hP (by decide +kernel : decode cL_law 789 = .ok (.iload 4, 2)) rfl) <|
   ev_a (ok_no) <|
   ev_a (ok_psh_iconst X hP (by decide +kernel : decode cL_law 791 = .ok (.iconst 1, 1)) rfl) <|
   ev_a (ok_iadd X hP (by decide +kernel : decode cL_law 792 = .ok (.iadd, 1)) rfl) <|
   ev_a (ok_ialoads X hP (by decide +kernel : decode cL_law 793 = .ok (.iaload, 1)) rfl) <|
   ev_a (ok_no) <|
   ev_a (ok_no) <|
   ev_a (ok_no) <|
   ev_a (ok_ast X hP (by decide +kernel : decode cL_law 797 = .ok (.astore 6, 2)) (by decide) rfl) <|
   ev_a (ok_no) <|
   ev_a (ok_jmp X hP (by decide +kernel : decode cL_law 799 = .ok (.goto 98, 3)) (by decide)) <| ev_a0) <|
  ev_b (
   ev_a (ok_no) <|
   ev_a (ok_no) <|
   ev_a (ok_ald_n X hP (by decide +kernel : decode cL_law 802 = .ok (.aload_n 1, 1)) rfl rfl) <|
   ev_a (ok_ald_n X hP (by decide +kernel : decode cL_law 803 = .ok (.aload_n 0, 1)) rfl rfl) <|
   ev_a (ok_ild X hP (by decide +kernel : decode cL_law 804 = .ok (.iload 4, 2)) rfl) <|
   ev_a (ok_no) <|
   ev_a (ok_psh_iconst X hP (by decide +kernel : decode cL_law 806 = .ok (.iconst 1, 1)) rfl) <|
   ev_a (ok_iadd X hP (by decide +kernel : decode cL_law 807 = .ok (.iadd, 1)) rfl) <|
   ev_a (ok_ialoads X hP (by decide +kernel : decode cL_law 808 = .ok (.iaload, 1)) rfl) <|
   ev_a (ok_ald_n X hP (by decide +kernel : decode cL_law 809 = .ok (.aload_n 3, 1)) rfl rfl) <|
   ev_a (ok_no) <|
   ev_a (ok_no) <|
   ev_a (ok_no) <|
   ev_a (ok_ist X hP (by decide +kernel : decode cL_law 813 = .ok (.istore 5, 2)) (by decide) rfl) <|
   ev_a (ok_no) <|
   ev_a (ok_ald_n X hP (by decide +kernel : decode cL_law 815 = .ok (.aload_n 2, 1)) rfl rfl) <| ev_a0) <|
  ev_b (
   ev_a (ok_ald_n X hP (by decide +kernel : decode cL_law 816 = .ok (.aload_n 0, 1)) rfl rfl) <|
   ev_a (ok_ild X hP (by decide +kernel : decode cL_law 817 = .ok (.iload 4, 2)) rfl) <|
   ev_a (ok_no) <|
   ev_a (ok_psh_iconst X hP (by decide +kernel : decode cL_law 819 = .ok (.iconst 1, 1)) rfl) <|
   ev_a (ok_iadd X hP (by decide +kernel : decode cL_law 820 = .ok (.iadd, 1)) rfl) <|
   ev_a (ok_ialoads X hP (by decide +kernel : decode cL_law 821 = .ok (.iaload, 1)) rfl) <|
   ev_a (ok_no) <|
   ev_a (ok_no) <|
   ev_a (ok_no) <|
   ev_a (ok_ist X hP (by decide +kernel : decode cL_law 825 = .ok (.istore 6, 2)) (by decide) rfl) <|
   ev_a (ok_no) <|
   ev_a (ok_jmp X hP (by decide +kernel : decode cL_law 827 = .ok (.goto 70, 3)) (by decide)) <|
   ev_a (ok_no) <|
   ev_a (ok_no) <|
   ev_a (ok_ald_n X hP (by decide +kernel : decode cL_law 830 = .ok (.aload_n 1, 1)) rfl rfl) <|
   ev_a (ok_invV X hP hR hd2 hcf (ci := 15) ev_y23 rfl (by decide +kernel : decode cL_law 831 = .ok (.invokevirtual 173, 3)) ev_w655 ev_w652 ev_w653 ev_w654 ev_w71 ⟨rfl, ev_dn23⟩ (by decide) rfl) <| ev_a0) <|
  ev_b (
   ev_a (ok_no) <|
   ev_a (ok_no) <|
   ev_a (ok_drop X hP (by decide +kernel : decode cL_law 834 = .ok (.pop, 1)) rfl) <|
   ev_a (ok_ald_n X hP (by decide +kernel : decode cL_law 835 = .ok (.aload_n 2, 1)) rfl rfl) <|
   ev_a (ok_invV X hP hR hd2 hcf (ci := 18) ev_y40 rfl (by decide +kernel : decode cL_law 836 = .ok (.invokevirtual 176, 3)) ev_w1867 ev_w1864 ev_w1865 ev_w1866 ev_w82 ⟨rfl, ev_dn40⟩ (by decide) rfl) <|
   ev_a (ok_no) <|
   ev_a (ok_no) <|
   ev_a (ok_drop X hP (by decide +kernel : decode cL_law 839 = .ok (.pop, 1)) rfl) <|
   ev_a (ok_jmp X hP (by decide +kernel : decode cL_law 840 = .ok (.goto 57, 3)) (by decide)) <|
   ev_a (ok_no) <|
   ev_a (ok_no) <|
   ev_a (ok_ald_n X hP (by decide +kernel : decode cL_law 843 = .ok (.aload_n 1, 1)) rfl rfl) <|
   ev_a (ok_ald_n X hP (by decide +kernel : decode cL_law 844 = .ok (.aload_n 0, 1)) rfl rfl) <|
   ev_a (ok_ild X hP (by decide +kernel : decode cL_law 845 = .ok (.iload 4, 2)) rfl) <|
   ev_a (ok_no) <|
   ev_a (ok_psh_iconst X hP (by decide +kernel : decode cL_law 847 = .ok (.iconst 1, 1)) rfl) <| ev_a0) <|
  ev_b (
   ev_a (ok_iadd X hP (by decide +kernel : decode cL_law 848 = .ok (.iadd, 1)) rfl) <|
   ev_a (ok_ialoads X hP (by decide +kernel : decode cL_law 849 = .ok (.iaload, 1)) rfl) <|
   ev_a (ok_ald_n X hP (by decide +kernel : decode cL_law 850 = .ok (.aload_n 3, 1)) rfl rfl) <|
   ev_a (ok_no) <|
   ev_a (ok_no) <|
   ev_a (ok_no) <|
   ev_a (ok_ist X hP (by decide +kernel : decode cL_law 854 = .ok (.istore 5, 2)) (by decide) rfl) <|
   ev_a (ok_no) <|
   ev_a (ok_ald_n X hP (by decide +kernel : decode cL_law 856 = .ok (.aload_n 2, 1)) rfl rfl) <|
   ev_a (ok_ald_n X hP (by decide +kernel : decode cL_law 857 = .ok (.aload_n 0, 1)) rfl rfl) <|
   ev_a (ok_ild X hP (by decide +kernel : decode cL_law 858 = .ok (.iload 4, 2)) rfl) <|
   ev_a (ok_no) <|
   ev_a (ok_psh_iconst X hP (by decide +kernel : decode cL_law 860 = .ok (.iconst 1, 1)) rfl) <|
   ev_a (ok_iadd X hP (by decide +kernel : decode cL_law 861 = .ok (.iadd, 1)) rfl) <|
   ev_a (ok_ialoads X hP (by decide +kernel : decode cL_law 862 = .ok (.iaload, 1)) rfl) <|
   ev_a (ok_no) <| ev_a0) <|
  ev_b (
   ev_a (ok_no) <|
   ev_a (ok_no) <|
   ev_a (ok_ist X hP (by decide +kernel : decode cL_law 866 = .ok (.istore 6, 2)) (by decide) rfl) <|
   ev_a (ok_no) <|
   ev_a (ok_jmp X hP (by decide +kernel : decode cL_law 868 = .ok (.goto 29, 3)) (by decide)) <|
   ev_a (ok_no) <|
   ev_a (ok_no) <|
   ev_a (ok_ald_n X hP (by decide +kernel : decode cL_law 871 = .ok (.aload_n 1, 1)) rfl rfl) <|
   ev_a (ok_no) <|
   ev_a (ok_no) <|
   ev_a (ok_no) <|
   ev_a (ok_drop X hP (by decide +kernel : decode cL_law 875 = .ok (.pop, 1)) rfl) <|
   ev_a (ok_ald_n X hP (by decide +kernel : decode cL_law 876 = .ok (.aload_n 2, 1)) rfl rfl) <|
   ev_a (ok_no) <|
   ev_a (ok_no) <|
   ev_a (ok_no) <| ev_a0) <|
  ev_b (
   ev_a (ok_drop X hP (by decide +kernel : decode cL_law 880 = .ok (.pop, 1)) rfl) <|
   ev_a (ok_jmp X hP (by decide +kernel : decode cL_law 881 = .ok (.goto 16, 3)) (by decide)) <|
   ev_a (ok_no) <|
   ev_a (ok_no) <|
   ev_a (ok_ald_n X hP (by decide +kernel : decode cL_law 884 = .ok (.aload_n 1, 1)) rfl rfl) <|
   ev_a (ok_no) <|
   ev_a (ok_no) <|
   ev_a (ok_no) <|
   ev_a (ok_no) <|
   ev_a (ok_ald_n X hP (by decide +kernel : decode cL_law 889 = .ok (.aload_n 2, 1)) rfl rfl) <|
   ev_a (ok_no) <|
   ev_a (ok_no) <|
   ev_a (ok_no) <|
   ev_a (ok_no) <|
   ev_a (ok_jmp X hP (by decide +kernel : decode cL_law 894 = .ok (.goto 3, 3)) (by decide)) <|
   ev_a (ok_no) <| ev_a0) <|
  ev_b (
   ev_a (ok_no) <|
   ev_a (ok_inc X hP (by decide +kernel : decode cL_law 897 = .ok (.iinc 4 4, 3)) (by decide) rfl) <|
   ev_a (ok_no) <|
   ev_a (ok_no) <|
   ev_a (ok_jmp X hP (by decide +kernel : decode cL_law 900 = .ok (.goto (-873), 3)) (by decide)) <|
   ev_a (ok_no) <|
   ev_a (ok_no) <|
   ev_a (ok_psh_iconst X hP (by decide +kernel : decode cL_law 903 = .ok (.iconst 1, 1)) rfl) <|
   ev_a (ok_zreturn X hP hQ hfin rfl (by decide +kernel : decode cL_law 904 = .ok (.ireturn, 1))) <| ev_a0) <|
  ev_b0
set_option maxRecDepth 100000 in
theorem ev_s17 {l : Launch} {d : Nat} {cf : Nat → List Value → ev_W → Option ev_R} {p : Program} {e : Env} {R : Room} {s : State} {m : MethodId} {args : Array Value} {below : List Frame} {meth : Method} {c : Code} {Q : State → Prop} {D : va_G} {G : Nat → ClassId} {ad : Nat → Nat} {A : Nat → Prop} {z wE nE : Nat} {P : Nat → List Value → List Value → ev_W → Nat → Prop} {α : Type} {r : α} {fin : Option Value → ev_W → Nat → Option α} (X : ev_X cL_tell 5 yL_tell.cls (some FieldType.int) p s m args meth c D G ad A z) (hP : ev_PP p l e R s m args below meth c Q 5 D G ad A z wE nE P) (hR : wE - z ≤ R.cells ∧ nE ≤ R.slots) (hd2 : d + 1 ≤ R.frames ∧ 64 * (d + 1) ≤ R.locals) (hR1 : 1 ≤ R.frames) (hR2 : 21 ≤ R.locals) (hcf : ev_cf l ev_ys d cf) {Qc : Array Value → State → Outcome → State → Prop} (hQ : Q = MQ below Qc args s (wE - z) nE A) (hfin : ∀ v w n, fin v w n = some r → w.length = wE ∧ n = nE ∧ ∀ H locs, ev_H D G ad A w H → va_S A s.heap H locs → ∀ t : State, t.heap = H → s.WarmedH t.vm → Qc args s (.returned (v.map (ev_v ad))) t) : ev_all2 (ev_ok P r) 0 (ev_o17 cf fin) :=
  ev_b (
   ev_a (ok_ald_n X hP (by decide +kernel : decode cL_tell 0 = .ok (.aload_n 3, 1)) rfl rfl) <|
   ev_a (ok_ald_n X hP (by decide +kernel : decode cL_tell 1 = .ok (.aload_n 0, 1)) rfl rfl) <|
   ev_a (ok_ild_n X hP (by decide +kernel : decode cL_tell 2 = .ok (.iload_n 1, 1)) rfl rfl) <|
   ev_a (ok_ild_n X hP (by decide +kernel : decode cL_tell 3 = .ok (.iload_n 2, 1)) rfl rfl) <|
   ev_a (ok_invV X hP hR hd2 hcf (ci := 15) ev_y32 rfl (by decide +kernel : decode cL_tell 4 = .ok (.invokevirtual 7, 3)) ev_w786 ev_w783 ev_w784 ev_w785 ev_w71 ⟨rfl, ev_dn32⟩ (by decide) rfl) <|
   ev_a (ok_no) <|
   ev_a (ok_no) <|
   ev_a (ok_i2l X hP (by decide +kernel : decode cL_tell 7 = .ok (.i2l, 1)) rfl) <|
   ev_a (ok_putN X hP (ci := 16) (kf := 0) (T := TX11) tyX11 (by decide +kernel : decode cL_tell 8 = .ok (.putfield 13, 3)) rfl ev_in16 tyX11_ok nmX11 (by decide) ev_w771 (Or.inl rfl) rfl rfl rfl) <|
   ev_a (ok_no) <|
   ev_a (ok_no) <|
   ev_a (ok_jmp X hP (by decide +kernel : decode cL_tell 11 = .ok (.goto 11, 3)) (by decide)) <|
   ev_a (ok_no) <|
   ev_a (ok_no) <|
   ev_a (ok_ast X hP (by decide +kernel : decode cL_tell 14 = .ok (.astore 4, 2)) (by decide) rfl) <|
   ev_a (ok_no) <| ev_a0) <|
  ev_b (
   ev_a (ok_psh_iconst X hP (by decide +kernel : decode cL_tell 16 = .ok (.iconst 1, 1)) rfl) <|
   ev_a (ok_ireturn X hP hQ hfin rfl (by decide +kernel : decode cL_tell 17 = .ok (.ireturn, 1))) <|
   ev_a (ok_ast X hP (by decide +kernel : decode cL_tell 18 = .ok (.astore 4, 2)) (by decide) rfl) <|
   ev_a (ok_no) <|
   ev_a (ok_psh_iconst X hP (by decide +kernel : decode cL_tell 20 = .ok (.iconst 2, 1)) rfl) <|
   ev_a (ok_ireturn X hP hQ hfin rfl (by decide +kernel : decode cL_tell 21 = .ok (.ireturn, 1))) <|
   ev_a (ok_psh_iconst X hP (by decide +kernel : decode cL_tell 22 = .ok (.iconst 0, 1)) rfl) <|
   ev_a (ok_ireturn X hP hQ hfin rfl (by decide +kernel : decode cL_tell 23 = .ok (.ireturn, 1))) <| ev_a0) <|
  ev_b0
set_option maxRecDepth 100000 in
theorem ev_s18 {l : Launch} {d : Nat} {cf : Nat → List Value → ev_W → Option ev_R} {p : Program} {e : Env} {R : Room} {s : State} {m : MethodId} {args : Array Value} {below : List Frame} {meth : Method} {c : Code} {Q : State → Prop} {D : va_G} {G : Nat → ClassId} {ad : Nat → Nat} {A : Nat → Prop} {z wE nE : Nat} {P : Nat → List Value → List Value → ev_W → Nat → Prop} {α : Type} {r : α} {fin : Option Value → ev_W → Nat → Option α} (X : ev_X cL_unsay 4 yL_unsay.cls (some FieldType.int) p s m args meth c D G ad A z) (hP : ev_PP p l e R s m args below meth c Q 4 D G ad A z wE nE P) (hR : wE - z ≤ R.cells ∧ nE ≤ R.slots) (hd2 : d + 1 ≤ R.frames ∧ 64 * (d + 1) ≤ R.locals) (hR1 : 1 ≤ R.frames) (hR2 : 21 ≤ R.locals) (hcf : ev_cf l ev_ys d cf) {Qc : Array Value → State → Outcome → State → Prop} (hQ : Q = MQ below Qc args s (wE - z) nE A) (hfin : ∀ v w n, fin v w n = some r → w.length = wE ∧ n = nE ∧ ∀ H locs, ev_H D G ad A w H → va_S A s.heap H locs → ∀ t : State, t.heap = H → s.WarmedH t.vm → Qc args s (.returned (v.map (ev_v ad))) t) : ev_all2 (ev_ok P r) 0 (ev_o18 cf fin) :=
  ev_b (
   ev_a (ok_ald_n X hP (by decide +kernel : decode cL_unsay 0 = .ok (.aload_n 2, 1)) rfl rfl) <|
   ev_a (ok_ald_n X hP (by decide +kernel : decode cL_unsay 1 = .ok (.aload_n 0, 1)) rfl rfl) <|
   ev_a (ok_ild_n X hP (by decide +kernel : decode cL_unsay 2 = .ok (.iload_n 1, 1)) rfl rfl) <|
   ev_a (ok_invV X hP hR hd2 hcf (ci := 15) ev_y35 rfl (by decide +kernel : decode cL_unsay 3 = .ok (.invokevirtual 23, 3)) ev_w890 ev_w887 ev_w888 ev_w889 ev_w71 ⟨rfl, ev_dn35⟩ (by decide) rfl) <|
   ev_a (ok_no) <|
   ev_a (ok_no) <|
   ev_a (ok_i2l X hP (by decide +kernel : decode cL_unsay 6 = .ok (.i2l, 1)) rfl) <|
   ev_a (ok_putN X hP (ci := 16) (kf := 0) (T := TX11) tyX11 (by decide +kernel : decode cL_unsay 7 = .ok (.putfield 13, 3)) rfl ev_in16 tyX11_ok nmX11 (by decide) ev_w771 (Or.inl rfl) rfl rfl rfl) <|
   ev_a (ok_no) <|
   ev_a (ok_no) <|
   ev_a (ok_jmp X hP (by decide +kernel : decode cL_unsay 10 = .ok (.goto 9, 3)) (by decide)) <|
   ev_a (ok_no) <|
   ev_a (ok_no) <|
   ev_a (ok_ast_n X hP (by decide +kernel : decode cL_unsay 13 = .ok (.astore_n 3, 1)) rfl (by decide) rfl) <|
   ev_a (ok_psh_iconst X hP (by decide +kernel : decode cL_unsay 14 = .ok (.iconst 1, 1)) rfl) <|
   ev_a (ok_ireturn X hP hQ hfin rfl (by decide +kernel : decode cL_unsay 15 = .ok (.ireturn, 1))) <| ev_a0) <|
  ev_b (
   ev_a (ok_ast_n X hP (by decide +kernel : decode cL_unsay 16 = .ok (.astore_n 3, 1)) rfl (by decide) rfl) <|
   ev_a (ok_psh_iconst X hP (by decide +kernel : decode cL_unsay 17 = .ok (.iconst 2, 1)) rfl) <|
   ev_a (ok_ireturn X hP hQ hfin rfl (by decide +kernel : decode cL_unsay 18 = .ok (.ireturn, 1))) <|
   ev_a (ok_psh_iconst X hP (by decide +kernel : decode cL_unsay 19 = .ok (.iconst 0, 1)) rfl) <|
   ev_a (ok_ireturn X hP hQ hfin rfl (by decide +kernel : decode cL_unsay 20 = .ok (.ireturn, 1))) <| ev_a0) <|
  ev_b0
set_option maxRecDepth 100000 in
theorem ev_s19 {l : Launch} {d : Nat} {cf : Nat → List Value → ev_W → Option ev_R} {p : Program} {e : Env} {R : Room} {s : State} {m : MethodId} {args : Array Value} {below : List Frame} {meth : Method} {c : Code} {Q : State → Prop} {D : va_G} {G : Nat → ClassId} {ad : Nat → Nat} {A : Nat → Prop} {z wE nE : Nat} {P : Nat → List Value → List Value → ev_W → Nat → Prop} {α : Type} {r : α} {fin : Option Value → ev_W → Nat → Option α} (X : ev_X cX0_add 3 yX0_add.cls (some FieldType.int) p s m args meth c D G ad A z) (hP : ev_PP p l e R s m args below meth c Q 3 D G ad A z wE nE P) (hR : wE - z ≤ R.cells ∧ nE ≤ R.slots) (hd2 : d + 1 ≤ R.frames ∧ 64 * (d + 1) ≤ R.locals) (hR1 : 1 ≤ R.frames) (hR2 : 21 ≤ R.locals) (hcf : ev_cf l ev_ys d cf) {Qc : Array Value → State → Outcome → State → Prop} (hQ : Q = MQ below Qc args s (wE - z) nE A) (hfin : ∀ v w n, fin v w n = some r → w.length = wE ∧ n = nE ∧ ∀ H locs, ev_H D G ad A w H → va_S A s.heap H locs → ∀ t : State, t.heap = H → s.WarmedH t.vm → Qc args s (.returned (v.map (ev_v ad))) t) : ev_all2 (ev_ok P r) 0 (ev_o19 cf fin) :=
  ev_b (
   ev_a (ok_ald_n X hP (by decide +kernel : decode cX0_add 0 = .ok (.aload_n 0, 1)) rfl rfl) <|
   ev_a (ok_get X hP (ci := 5) (kf := 0) (T := TX0) (by decide +kernel : decode cX0_add 1 = .ok (.getfield 9, 3)) rfl ev_in5 (by decide) ev_w143 (Or.inl rfl) rfl) <|
   ev_a (ok_no) <|
   ev_a (ok_no) <|
   ev_a (ok_ald_n X hP (by decide +kernel : decode cX0_add 4 = .ok (.aload_n 0, 1)) rfl rfl) <|
   ev_a (ok_get X hP (ci := 5) (kf := 2) (T := TX0) (by decide +kernel : decode cX0_add 5 = .ok (.getfield 18, 3)) rfl ev_in5 (by decide) ev_w147 (Or.inl rfl) rfl) <|
   ev_a (ok_no) <|
   ev_a (ok_no) <|
   ev_a (ok_ild_n X hP (by decide +kernel : decode cX0_add 8 = .ok (.iload_n 1, 1)) rfl rfl) <|
   ev_a (ok_invSN X hP hR hd2 hcf ev_y31 (by decide +kernel : decode cX0_add 9 = .ok (.invokestatic 22, 3)) ev_w440 ev_w883 ev_w439 ev_w71 ev_dn31 (by decide) rfl) <|
   ev_a (ok_no) <|
   ev_a (ok_no) <|
   ev_a (ok_ald_n X hP (by decide +kernel : decode cX0_add 12 = .ok (.aload_n 0, 1)) rfl rfl) <|
   ev_a (ok_get X hP (ci := 5) (kf := 1) (T := TX0) (by decide +kernel : decode cX0_add 13 = .ok (.getfield 15, 3)) rfl ev_in5 (by decide) ev_w145 (Or.inl rfl) rfl) <|
   ev_a (ok_no) <|
   ev_a (ok_no) <| ev_a0) <|
  ev_b (
   ev_a (ok_ald_n X hP (by decide +kernel : decode cX0_add 16 = .ok (.aload_n 0, 1)) rfl rfl) <|
   ev_a (ok_get X hP (ci := 5) (kf := 2) (T := TX0) (by decide +kernel : decode cX0_add 17 = .ok (.getfield 18, 3)) rfl ev_in5 (by decide) ev_w147 (Or.inl rfl) rfl) <|
   ev_a (ok_no) <|
   ev_a (ok_no) <|
   ev_a (ok_ild_n X hP (by decide +kernel : decode cX0_add 20 = .ok (.iload_n 2, 1)) rfl rfl) <|
   ev_a (ok_invSN X hP hR hd2 hcf ev_y31 (by decide +kernel : decode cX0_add 21 = .ok (.invokestatic 22, 3)) ev_w440 ev_w883 ev_w439 ev_w71 ev_dn31 (by decide) rfl) <|
   ev_a (ok_no) <|
   ev_a (ok_no) <|
   ev_a (ok_ald_n X hP (by decide +kernel : decode cX0_add 24 = .ok (.aload_n 0, 1)) rfl rfl) <|
   ev_a (ok_dup X hP (by decide +kernel : decode cX0_add 25 = .ok (.dup, 1)) rfl) <|
   ev_a (ok_get X hP (ci := 5) (kf := 2) (T := TX0) (by decide +kernel : decode cX0_add 26 = .ok (.getfield 18, 3)) rfl ev_in5 (by decide) ev_w147 (Or.inl rfl) rfl) <|
   ev_a (ok_no) <|
   ev_a (ok_no) <|
   ev_a (ok_psh_iconst X hP (by decide +kernel : decode cX0_add 29 = .ok (.iconst 1, 1)) rfl) <|
   ev_a (ok_iadd X hP (by decide +kernel : decode cX0_add 30 = .ok (.iadd, 1)) rfl) <|
   ev_a (ok_put X hP (ci := 5) (kf := 2) (T := TX0) tyX0 (by decide +kernel : decode cX0_add 31 = .ok (.putfield 18, 3)) rfl ev_in5 tyX0_ok nmX0 (by decide) ev_w147 (Or.inl rfl) rfl rfl rfl) <| ev_a0) <|
  ev_b (
   ev_a (ok_no) <|
   ev_a (ok_no) <|
   ev_a (ok_ald_n X hP (by decide +kernel : decode cX0_add 34 = .ok (.aload_n 0, 1)) rfl rfl) <|
   ev_a (ok_get X hP (ci := 5) (kf := 2) (T := TX0) (by decide +kernel : decode cX0_add 35 = .ok (.getfield 18, 3)) rfl ev_in5 (by decide) ev_w147 (Or.inl rfl) rfl) <|
   ev_a (ok_no) <|
   ev_a (ok_no) <|
   ev_a (ok_ireturn X hP hQ hfin rfl (by decide +kernel : decode cX0_add 38 = .ok (.ireturn, 1))) <| ev_a0) <|
  ev_b0
set_option maxRecDepth 100000 in
theorem ev_s20 {l : Launch} {d : Nat} {cf : Nat → List Value → ev_W → Option ev_R} {p : Program} {e : Env} {R : Room} {s : State} {m : MethodId} {args : Array Value} {below : List Frame} {meth : Method} {c : Code} {Q : State → Prop} {D : va_G} {G : Nat → ClassId} {ad : Nat → Nat} {A : Nat → Prop} {z wE nE : Nat} {P : Nat → List Value → List Value → ev_W → Nat → Prop} {α : Type} {r : α} {fin : Option Value → ev_W → Nat → Option α} (X : ev_X cX0_empty 2 yX0_empty.cls (some FieldType.int) p s m args meth c D G ad A z) (hP : ev_PP p l e R s m args below meth c Q 2 D G ad A z wE nE P) (hR : wE - z ≤ R.cells ∧ nE ≤ R.slots) (hd2 : d + 1 ≤ R.frames ∧ 64 * (d + 1) ≤ R.locals) (hR1 : 1 ≤ R.frames) (hR2 : 21 ≤ R.locals) (hcf : ev_cf l ev_ys d cf) {Qc : Array Value → State → Outcome → State → Prop} (hQ : Q = MQ below Qc args s (wE - z) nE A) (hfin : ∀ v w n, fin v w n = some r → w.length = wE ∧ n = nE ∧ ∀ H locs, ev_H D G ad A w H → va_S A s.heap H locs → ∀ t : State, t.heap = H → s.WarmedH t.vm → Qc args s (.returned (v.map (ev_v ad))) t) : ev_all2 (ev_ok P r) 0 (ev_o20 cf fin) :=
  ev_b (
   ev_a (ok_ald_n X hP (by decide +kernel : decode cX0_empty 0 = .ok (.aload_n 0, 1)) rfl rfl) <|
   ev_a (ok_get X hP (ci := 5) (kf := 2) (T := TX0) (by decide +kernel : decode cX0_empty 1 = .ok (.getfield 18, 3)) rfl ev_in5 (by decide) ev_w147 (Or.inl rfl) rfl) <|
   ev_a (ok_no) <|
   ev_a (ok_no) <|
   ev_a (ok_ist_n X hP (by decide +kernel : decode cX0_empty 4 = .ok (.istore_n 1, 1)) rfl (by decide) rfl) <|
   ev_a (ok_ald_n X hP (by decide +kernel : decode cX0_empty 5 = .ok (.aload_n 0, 1)) rfl rfl) <|
   ev_a (ok_psh_iconst X hP (by decide +kernel : decode cX0_empty 6 = .ok (.iconst 0, 1)) rfl) <|
   ev_a (ok_put X hP (ci := 5) (kf := 2) (T := TX0) tyX0 (by decide +kernel : decode cX0_empty 7 = .ok (.putfield 18, 3)) rfl ev_in5 tyX0_ok nmX0 (by decide) ev_w147 (Or.inl rfl) rfl rfl rfl) <|
   ev_a (ok_no) <|
   ev_a (ok_no) <|
   ev_a (ok_ild_n X hP (by decide +kernel : decode cX0_empty 10 = .ok (.iload_n 1, 1)) rfl rfl) <|
   ev_a (ok_ireturn X hP hQ hfin rfl (by decide +kernel : decode cX0_empty 11 = .ok (.ireturn, 1))) <| ev_a0) <|
  ev_b0
set_option maxRecDepth 100000 in
theorem ev_s21 {l : Launch} {d : Nat} {cf : Nat → List Value → ev_W → Option ev_R} {p : Program} {e : Env} {R : Room} {s : State} {m : MethodId} {args : Array Value} {below : List Frame} {meth : Method} {c : Code} {Q : State → Prop} {D : va_G} {G : Nat → ClassId} {ad : Nat → Nat} {A : Nat → Prop} {z wE nE : Nat} {P : Nat → List Value → List Value → ev_W → Nat → Prop} {α : Type} {r : α} {fin : Option Value → ev_W → Nat → Option α} (X : ev_X cX0_init 1 yX0_init.cls none p s m args meth c D G ad A z) (hP : ev_PP p l e R s m args below meth c Q 1 D G ad A z wE nE P) (hR : wE - z ≤ R.cells ∧ nE ≤ R.slots) (hd2 : d + 1 ≤ R.frames ∧ 64 * (d + 1) ≤ R.locals) (hR1 : 1 ≤ R.frames) (hR2 : 21 ≤ R.locals) (hcf : ev_cf l ev_ys d cf) (hin2 : meth.name = "<init>") {Qc : Array Value → State → Outcome → State → Prop} (hQ : Q = MQ below Qc args s (wE - z) nE A) (hfin : ∀ v w n, fin v w n = some r → w.length = wE ∧ n = nE ∧ ∀ H locs, ev_H D G ad A w H → va_S A s.heap H locs → ∀ t : State, t.heap = H → s.WarmedH t.vm → Qc args s (.returned (v.map (ev_v ad))) t) : ev_all2 (ev_ok P r) 0 (ev_o21 cf fin) :=
  ev_b (
   ev_a (ok_ald_n X hP (by decide +kernel : decode cX0_init 0 = .ok (.aload_n 0, 1)) rfl rfl) <|
   ev_a (ok_obj X hP hR1 hR2 (by decide +kernel : decode cX0_init 1 = .ok (.invokespecial 3, 3)) ev_w142 ev_w115 ev_w116 rfl) <|
   ev_a (ok_no) <|
   ev_a (ok_no) <|
   ev_a (ok_ald_n X hP (by decide +kernel : decode cX0_init 4 = .ok (.aload_n 0, 1)) rfl rfl) <|
   ev_a (ok_psh_bipush X hP (by decide +kernel : decode cX0_init 5 = .ok (.bipush 12, 2)) rfl) <|
   ev_a (ok_no) <|
   ev_a (ok_newarray X hP hR (by decide +kernel : decode cX0_init 7 = .ok (.newarray .int, 2)) (Or.inl ⟨rfl, rfl, rfl⟩) ev_w136 rfl) <|
   ev_a (ok_no) <|
   ev_a (ok_putF X hP hin2 (ci := 5) (kf := 0) (T := TX0) tyX0 (by decide +kernel : decode cX0_init 9 = .ok (.putfield 9, 3)) rfl ev_in5 tyX0_ok nmX0 (by decide) ev_w143 (Or.inl rfl) rfl rfl rfl rfl) <|
   ev_a (ok_no) <|
   ev_a (ok_no) <|
   ev_a (ok_ald_n X hP (by decide +kernel : decode cX0_init 12 = .ok (.aload_n 0, 1)) rfl rfl) <|
   ev_a (ok_psh_bipush X hP (by decide +kernel : decode cX0_init 13 = .ok (.bipush 12, 2)) rfl) <|
   ev_a (ok_no) <|
   ev_a (ok_newarray X hP hR (by decide +kernel : decode cX0_init 15 = .ok (.newarray .int, 2)) (Or.inl ⟨rfl, rfl, rfl⟩) ev_w136 rfl) <| ev_a0) <|
  ev_b (
   ev_a (ok_no) <|
   ev_a (ok_putF X hP hin2 (ci := 5) (kf := 1) (T := TX0) tyX0 (by decide +kernel : decode cX0_init 17 = .ok (.putfield 15, 3)) rfl ev_in5 tyX0_ok nmX0 (by decide) ev_w145 (Or.inl rfl) rfl rfl rfl rfl) <|
   ev_a (ok_no) <|
   ev_a (ok_no) <|
   ev_a (ok_return X hP hQ hfin rfl (by decide +kernel : decode cX0_init 20 = .ok (.return_, 1))) <| ev_a0) <|
  ev_b0
set_option maxRecDepth 100000 in
theorem ev_s22 {l : Launch} {d : Nat} {cf : Nat → List Value → ev_W → Option ev_R} {p : Program} {e : Env} {R : Room} {s : State} {m : MethodId} {args : Array Value} {below : List Frame} {meth : Method} {c : Code} {Q : State → Prop} {D : va_G} {G : Nat → ClassId} {ad : Nat → Nat} {A : Nat → Prop} {z wE nE : Nat} {P : Nat → List Value → List Value → ev_W → Nat → Prop} {α : Type} {r : α} {fin : Option Value → ev_W → Nat → Option α} (X : ev_X cX10_at 3 yX10_at.cls (some FieldType.int) p s m args meth c D G ad A z) (hP : ev_PP p l e R s m args below meth c Q 3 D G ad A z wE nE P) (hR : wE - z ≤ R.cells ∧ nE ≤ R.slots) (hd2 : d + 1 ≤ R.frames ∧ 64 * (d + 1) ≤ R.locals) (hR1 : 1 ≤ R.frames) (hR2 : 21 ≤ R.locals) (hcf : ev_cf l ev_ys d cf) {Qc : Array Value → State → Outcome → State → Prop} (hQ : Q = MQ below Qc args s (wE - z) nE A) (hfin : ∀ v w n, fin v w n = some r → w.length = wE ∧ n = nE ∧ ∀ H locs, ev_H D G ad A w H → va_S A s.heap H locs → ∀ t : State, t.heap = H → s.WarmedH t.vm → Qc args s (.returned (v.map (ev_v ad))) t) : ev_all2 (ev_ok P r) 0 (ev_o22 cf fin) :=
  ev_b (
   ev_a (ok_ild_n X hP (by decide +kernel : decode cX10_at 0 = .ok (.iload_n 1, 1)) rfl rfl) <|
   ev_a (ok_if_lt X hP (by decide +kernel : decode cX10_at 1 = .ok (.ifCond .lt 15, 3)) (by decide) rfl) <|
   ev_a (ok_no) <|
   ev_a (ok_no) <|
   ev_a (ok_ild_n X hP (by decide +kernel : decode cX10_at 4 = .ok (.iload_n 1, 1)) rfl rfl) <|
   ev_a (ok_ald_n X hP (by decide +kernel : decode cX10_at 5 = .ok (.aload_n 0, 1)) rfl rfl) <|
   ev_a (ok_aln X hP (by decide +kernel : decode cX10_at 6 = .ok (.arraylength, 1)) rfl) <|
   ev_a (ok_icmp_ge X hP (by decide +kernel : decode cX10_at 7 = .ok (.if_icmp .ge 9, 3)) (by decide) rfl) <|
   ev_a (ok_no) <|
   ev_a (ok_no) <|
   ev_a (ok_ald_n X hP (by decide +kernel : decode cX10_at 10 = .ok (.aload_n 0, 1)) rfl rfl) <|
   ev_a (ok_ild_n X hP (by decide +kernel : decode cX10_at 11 = .ok (.iload_n 1, 1)) rfl rfl) <|
   ev_a (ok_ialoads X hP (by decide +kernel : decode cX10_at 12 = .ok (.iaload, 1)) rfl) <|
   ev_a (ok_jmp X hP (by decide +kernel : decode cX10_at 13 = .ok (.goto 4, 3)) (by decide)) <|
   ev_a (ok_no) <|
   ev_a (ok_no) <| ev_a0) <|
  ev_b (
   ev_a (ok_ild_n X hP (by decide +kernel : decode cX10_at 16 = .ok (.iload_n 2, 1)) rfl rfl) <|
   ev_a (ok_ireturn X hP hQ hfin rfl (by decide +kernel : decode cX10_at 17 = .ok (.ireturn, 1))) <| ev_a0) <|
  ev_b0
set_option maxRecDepth 100000 in
theorem ev_s23 {l : Launch} {d : Nat} {cf : Nat → List Value → ev_W → Option ev_R} {p : Program} {e : Env} {R : Room} {s : State} {m : MethodId} {args : Array Value} {below : List Frame} {meth : Method} {c : Code} {Q : State → Prop} {D : va_G} {G : Nat → ClassId} {ad : Nat → Nat} {A : Nat → Prop} {z wE nE : Nat} {P : Nat → List Value → List Value → ev_W → Nat → Prop} {α : Type} {r : α} {fin : Option Value → ev_W → Nat → Option α} (X : ev_X cX10_broken 1 yX10_broken.cls (some FieldType.int) p s m args meth c D G ad A z) (hP : ev_PP p l e R s m args below meth c Q 1 D G ad A z wE nE P) (hR : wE - z ≤ R.cells ∧ nE ≤ R.slots) (hd2 : d + 1 ≤ R.frames ∧ 64 * (d + 1) ≤ R.locals) (hR1 : 1 ≤ R.frames) (hR2 : 21 ≤ R.locals) (hcf : ev_cf l ev_ys d cf) {Qc : Array Value → State → Outcome → State → Prop} (hQ : Q = MQ below Qc args s (wE - z) nE A) (hfin : ∀ v w n, fin v w n = some r → w.length = wE ∧ n = nE ∧ ∀ H locs, ev_H D G ad A w H → va_S A s.heap H locs → ∀ t : State, t.heap = H → s.WarmedH t.vm → Qc args s (.returned (v.map (ev_v ad))) t) : ev_all2 (ev_ok P r) 0 (ev_o23 cf fin) :=
  ev_b (
   ev_a (ok_ald_n X hP (by decide +kernel : decode cX10_broken 0 = .ok (.aload_n 0, 1)) rfl rfl) <|
   ev_a (ok_invV X hP hR hd2 hcf (ci := 15) ev_y34 rfl (by decide +kernel : decode cX10_broken 1 = .ok (.invokevirtual 112, 3)) ev_w659 ev_w656 ev_w658 ev_w19 ev_w71 ⟨rfl, ev_dn34⟩ (by decide) rfl) <|
   ev_a (ok_no) <|
   ev_a (ok_no) <|
   ev_a (ok_ald_n X hP (by decide +kernel : decode cX10_broken 4 = .ok (.aload_n 0, 1)) rfl rfl) <|
   ev_a (ok_get X hP (ci := 15) (kf := 5) (T := TX10) (by decide +kernel : decode cX10_broken 5 = .ok (.getfield 40, 3)) rfl ev_in15 (by decide) ev_w353 (Or.inl rfl) rfl) <|
   ev_a (ok_no) <|
   ev_a (ok_no) <|
   ev_a (ok_ald_n X hP (by decide +kernel : decode cX10_broken 8 = .ok (.aload_n 0, 1)) rfl rfl) <|
   ev_a (ok_get X hP (ci := 15) (kf := 0) (T := TX10) (by decide +kernel : decode cX10_broken 9 = .ok (.getfield 10, 3)) rfl ev_in15 (by decide) ev_w348 (Or.inl rfl) rfl) <|
   ev_a (ok_no) <|
   ev_a (ok_no) <|
   ev_a (ok_invV X hP hR hd2 hcf (ci := 14) ev_y73 rfl (by decide +kernel : decode cX10_broken 12 = .ok (.invokevirtual 120, 3)) ev_w687 ev_w684 ev_w685 ev_w686 ev_w75 ⟨rfl, ev_dn73⟩ (by decide) rfl) <|
   ev_a (ok_no) <|
   ev_a (ok_no) <|
   ev_a (ok_ireturn X hP hQ hfin rfl (by decide +kernel : decode cX10_broken 15 = .ok (.ireturn, 1))) <| ev_a0) <|
  ev_b0
set_option maxRecDepth 100000 in
theorem ev_s24 {l : Launch} {d : Nat} {cf : Nat → List Value → ev_W → Option ev_R} {p : Program} {e : Env} {R : Room} {s : State} {m : MethodId} {args : Array Value} {below : List Frame} {meth : Method} {c : Code} {Q : State → Prop} {D : va_G} {G : Nat → ClassId} {ad : Nat → Nat} {A : Nat → Prop} {z wE nE : Nat} {P : Nat → List Value → List Value → ev_W → Nat → Prop} {α : Type} {r : α} {fin : Option Value → ev_W → Nat → Option α} (X : ev_X cX10_checkBatchRoom 1 yX10_checkBatchRoom.cls none p s m args meth c D G ad A z) (hP : ev_PP p l e R s m args below meth c Q 1 D G ad A z wE nE P) (hR : wE - z ≤ R.cells ∧ nE ≤ R.slots) (hd2 : d + 1 ≤ R.frames ∧ 64 * (d + 1) ≤ R.locals) (hR1 : 1 ≤ R.frames) (hR2 : 21 ≤ R.locals) (hcf : ev_cf l ev_ys d cf) {Qc : Array Value → State → Outcome → State → Prop} (hQ : Q = MQ below Qc args s (wE - z) nE A) (hfin : ∀ v w n, fin v w n = some r → w.length = wE ∧ n = nE ∧ ∀ H locs, ev_H D G ad A w H → va_S A s.heap H locs → ∀ t : State, t.heap = H → s.WarmedH t.vm → Qc args s (.returned (v.map (ev_v ad))) t) : ev_all2 (ev_ok P r) 0 (ev_o24 cf fin) :=
  ev_b (
   ev_a (ok_ald_n X hP (by decide +kernel : decode cX10_checkBatchRoom 0 = .ok (.aload_n 0, 1)) rfl rfl) <|
   ev_a (ok_get X hP (ci := 15) (kf := 1) (T := TX10) (by decide +kernel : decode cX10_checkBatchRoom 1 = .ok (.getfield 19, 3)) rfl ev_in15 (by decide) ev_w349 (Or.inl rfl) rfl) <|
   ev_a (ok_no) <|
   ev_a (ok_no) <|
   ev_a (ok_getN X hP (ci := 5) (kf := 2) (T := TX0) (by decide +kernel : decode cX10_checkBatchRoom 4 = .ok (.getfield 342, 3)) rfl ev_in5 (by decide) ev_w149 (Or.inl rfl) rfl) <|
   ev_a (ok_no) <|
   ev_a (ok_no) <|
   ev_a (ok_psh_bipush X hP (by decide +kernel : decode cX10_checkBatchRoom 7 = .ok (.bipush 12, 2)) rfl) <|
   ev_a (ok_no) <|
   ev_a (ok_icmp_lt X hP (by decide +kernel : decode cX10_checkBatchRoom 9 = .ok (.if_icmp .lt 14, 3)) (by decide) rfl) <|
   ev_a (ok_no) <|
   ev_a (ok_no) <|
   ev_a (ok_no) <|
   ev_a (ok_no) <|
   ev_a (ok_no) <|
   ev_a (ok_dup X hP (by decide +kernel : decode cX10_checkBatchRoom 15 = .ok (.dup, 1)) rfl) <| ev_a0) <|
  ev_b (
   ev_a (ok_no) <|
   ev_a (ok_no) <|
   ev_a (ok_no) <|
   ev_a (ok_no) <|
   ev_a (ok_no) <|
   ev_a (ok_no) <|
   ev_a (ok_no) <|
   ev_a (ok_return X hP hQ hfin rfl (by decide +kernel : decode cX10_checkBatchRoom 23 = .ok (.return_, 1))) <| ev_a0) <|
  ev_b0
set_option maxRecDepth 100000 in
theorem ev_s25 {l : Launch} {d : Nat} {cf : Nat → List Value → ev_W → Option ev_R} {p : Program} {e : Env} {R : Room} {s : State} {m : MethodId} {args : Array Value} {below : List Frame} {meth : Method} {c : Code} {Q : State → Prop} {D : va_G} {G : Nat → ClassId} {ad : Nat → Nat} {A : Nat → Prop} {z wE nE : Nat} {P : Nat → List Value → List Value → ev_W → Nat → Prop} {α : Type} {r : α} {fin : Option Value → ev_W → Nat → Option α} (X : ev_X cX10_checkTriple 1 yX10_checkTriple.cls none p s m args meth c D G ad A z) (hP : ev_PP p l e R s m args below meth c Q 1 D G ad A z wE nE P) (hR : wE - z ≤ R.cells ∧ nE ≤ R.slots) (hd2 : d + 1 ≤ R.frames ∧ 64 * (d + 1) ≤ R.locals) (hR1 : 1 ≤ R.frames) (hR2 : 21 ≤ R.locals) (hcf : ev_cf l ev_ys d cf) {Qc : Array Value → State → Outcome → State → Prop} (hQ : Q = MQ below Qc args s (wE - z) nE A) (hfin : ∀ v w n, fin v w n = some r → w.length = wE ∧ n = nE ∧ ∀ H locs, ev_H D G ad A w H → va_S A s.heap H locs → ∀ t : State, t.heap = H → s.WarmedH t.vm → Qc args s (.returned (v.map (ev_v ad))) t) : ev_all2 (ev_ok P r) 0 (ev_o25 cf fin) :=
  ev_b (
   ev_a (ok_ild_n X hP (by decide +kernel : decode cX10_checkTriple 0 = .ok (.iload_n 0, 1)) rfl rfl) <|
   ev_a (ok_if_lt X hP (by decide +kernel : decode cX10_checkTriple 1 = .ok (.ifCond .lt 31, 3)) (by decide) rfl) <|
   ev_a (ok_no) <|
   ev_a (ok_no) <|
   ev_a (ok_ild_n X hP (by decide +kernel : decode cX10_checkTriple 4 = .ok (.iload_n 0, 1)) rfl rfl) <|
   ev_a (ok_psh_sipush X hP (by decide +kernel : decode cX10_checkTriple 5 = .ok (.sipush 556, 3)) rfl) <|
   ev_a (ok_no) <|
   ev_a (ok_no) <|
   ev_a (ok_icmp_ge X hP (by decide +kernel : decode cX10_checkTriple 8 = .ok (.if_icmp .ge 24, 3)) (by decide) rfl) <|
   ev_a (ok_no) <|
   ev_a (ok_no) <|
   ev_a (ok_ild_n X hP (by decide +kernel : decode cX10_checkTriple 11 = .ok (.iload_n 0, 1)) rfl rfl) <|
   ev_a (ok_psh_bipush X hP (by decide +kernel : decode cX10_checkTriple 12 = .ok (.bipush 10, 2)) rfl) <|
   ev_a (ok_no) <|
   ev_a (ok_idiv X hP (by decide +kernel : decode cX10_checkTriple 14 = .ok (.idiv, 1)) rfl) <|
   ev_a (ok_psh_bipush X hP (by decide +kernel : decode cX10_checkTriple 15 = .ok (.bipush 10, 2)) rfl) <| ev_a0) <|
  ev_b (
   ev_a (ok_no) <|
   ev_a (ok_irem X hP (by decide +kernel : decode cX10_checkTriple 17 = .ok (.irem, 1)) rfl) <|
   ev_a (ok_psh_bipush X hP (by decide +kernel : decode cX10_checkTriple 18 = .ok (.bipush 6, 2)) rfl) <|
   ev_a (ok_no) <|
   ev_a (ok_icmp_ge X hP (by decide +kernel : decode cX10_checkTriple 20 = .ok (.if_icmp .ge 12, 3)) (by decide) rfl) <|
   ev_a (ok_no) <|
   ev_a (ok_no) <|
   ev_a (ok_ild_n X hP (by decide +kernel : decode cX10_checkTriple 23 = .ok (.iload_n 0, 1)) rfl rfl) <|
   ev_a (ok_psh_bipush X hP (by decide +kernel : decode cX10_checkTriple 24 = .ok (.bipush 10, 2)) rfl) <|
   ev_a (ok_no) <|
   ev_a (ok_irem X hP (by decide +kernel : decode cX10_checkTriple 26 = .ok (.irem, 1)) rfl) <|
   ev_a (ok_psh_bipush X hP (by decide +kernel : decode cX10_checkTriple 27 = .ok (.bipush 6, 2)) rfl) <|
   ev_a (ok_no) <|
   ev_a (ok_icmp_lt X hP (by decide +kernel : decode cX10_checkTriple 29 = .ok (.if_icmp .lt 14, 3)) (by decide) rfl) <|
   ev_a (ok_no) <|
   ev_a (ok_no) <| ev_a0) <|
  ev_b (
   ev_a (ok_no) <|
   ev_a (ok_no) <|
   ev_a (ok_no) <|
   ev_a (ok_dup X hP (by decide +kernel : decode cX10_checkTriple 35 = .ok (.dup, 1)) rfl) <|
   ev_a (ok_no) <|
   ev_a (ok_no) <|
   ev_a (ok_no) <|
   ev_a (ok_no) <|
   ev_a (ok_no) <|
   ev_a (ok_no) <|
   ev_a (ok_no) <|
   ev_a (ok_return X hP hQ hfin rfl (by decide +kernel : decode cX10_checkTriple 43 = .ok (.return_, 1))) <| ev_a0) <|
  ev_b0
set_option maxRecDepth 100000 in
theorem ev_s26 {l : Launch} {d : Nat} {cf : Nat → List Value → ev_W → Option ev_R} {p : Program} {e : Env} {R : Room} {s : State} {m : MethodId} {args : Array Value} {below : List Frame} {meth : Method} {c : Code} {Q : State → Prop} {D : va_G} {G : Nat → ClassId} {ad : Nat → Nat} {A : Nat → Prop} {z wE nE : Nat} {P : Nat → List Value → List Value → ev_W → Nat → Prop} {α : Type} {r : α} {fin : Option Value → ev_W → Nat → Option α} (X : ev_X cX10_commit 1 yX10_commit.cls (some FieldType.int) p s m args meth c D G ad A z) (hP : ev_PP p l e R s m args below meth c Q 1 D G ad A z wE nE P) (hR : wE - z ≤ R.cells ∧ nE ≤ R.slots) (hd2 : d + 1 ≤ R.frames ∧ 64 * (d + 1) ≤ R.locals) (hR1 : 1 ≤ R.frames) (hR2 : 21 ≤ R.locals) (hcf : ev_cf l ev_ys d cf) {Qc : Array Value → State → Outcome → State → Prop} (hQ : Q = MQ below Qc args s (wE - z) nE A) (hfin : ∀ v w n, fin v w n = some r → w.length = wE ∧ n = nE ∧ ∀ H locs, ev_H D G ad A w H → va_S A s.heap H locs → ∀ t : State, t.heap = H → s.WarmedH t.vm → Qc args s (.returned (v.map (ev_v ad))) t) : ev_all2 (ev_ok P r) 0 (ev_o26 cf fin) :=
  ev_b (
   ev_a (ok_ald_n X hP (by decide +kernel : decode cX10_commit 0 = .ok (.aload_n 0, 1)) rfl rfl) <|
   ev_a (ok_get X hP (ci := 15) (kf := 12) (T := TX10) (by decide +kernel : decode cX10_commit 1 = .ok (.getfield 103, 3)) rfl ev_in15 (by decide) ev_w360 (Or.inl rfl) rfl) <|
   ev_a (ok_no) <|
   ev_a (ok_no) <|
   ev_a (ok_psh_bipush X hP (by decide +kernel : decode cX10_commit 4 = .ok (.bipush 50, 2)) rfl) <|
   ev_a (ok_no) <|
   ev_a (ok_icmp_lt X hP (by decide +kernel : decode cX10_commit 6 = .ok (.if_icmp .lt 13, 3)) (by decide) rfl) <|
   ev_a (ok_no) <|
   ev_a (ok_no) <|
   ev_a (ok_no) <|
   ev_a (ok_no) <|
   ev_a (ok_no) <|
   ev_a (ok_dup X hP (by decide +kernel : decode cX10_commit 12 = .ok (.dup, 1)) rfl) <|
   ev_a (ok_no) <|
   ev_a (ok_no) <|
   ev_a (ok_no) <| ev_a0) <|
  ev_b (
   ev_a (ok_no) <|
   ev_a (ok_no) <|
   ev_a (ok_no) <|
   ev_a (ok_ald_n X hP (by decide +kernel : decode cX10_commit 19 = .ok (.aload_n 0, 1)) rfl rfl) <|
   ev_a (ok_invV X hP hR hd2 hcf (ci := 15) ev_y34 rfl (by decide +kernel : decode cX10_commit 20 = .ok (.invokevirtual 112, 3)) ev_w659 ev_w656 ev_w658 ev_w19 ev_w71 ⟨rfl, ev_dn34⟩ (by decide) rfl) <|
   ev_a (ok_no) <|
   ev_a (ok_no) <|
   ev_a (ok_ald_n X hP (by decide +kernel : decode cX10_commit 23 = .ok (.aload_n 0, 1)) rfl rfl) <|
   ev_a (ok_get X hP (ci := 15) (kf := 3) (T := TX10) (by decide +kernel : decode cX10_commit 24 = .ok (.getfield 30, 3)) rfl ev_in15 (by decide) ev_w351 (Or.inl rfl) rfl) <|
   ev_a (ok_no) <|
   ev_a (ok_no) <|
   ev_a (ok_getN X hP (ci := 12) (kf := 5) (T := TX7) (by decide +kernel : decode cX10_commit 27 = .ok (.getfield 115, 3)) rfl ev_in12 (by decide) ev_w174 (Or.inl rfl) rfl) <|
   ev_a (ok_no) <|
   ev_a (ok_no) <|
   ev_a (ok_psh_bipush X hP (by decide +kernel : decode cX10_commit 30 = .ok (.bipush 60, 2)) rfl) <|
   ev_a (ok_no) <| ev_a0) <|
  ev_b (
   ev_a (ok_icmp_le X hP (by decide +kernel : decode cX10_commit 32 = .ok (.if_icmp .le 13, 3)) (by decide) rfl) <|
   ev_a (ok_no) <|
   ev_a (ok_no) <|
   ev_a (ok_no) <|
   ev_a (ok_no) <|
   ev_a (ok_no) <|
   ev_a (ok_dup X hP (by decide +kernel : decode cX10_commit 38 = .ok (.dup, 1)) rfl) <|
   ev_a (ok_no) <|
   ev_a (ok_no) <|
   ev_a (ok_no) <|
   ev_a (ok_no) <|
   ev_a (ok_no) <|
   ev_a (ok_no) <|
   ev_a (ok_ald_n X hP (by decide +kernel : decode cX10_commit 45 = .ok (.aload_n 0, 1)) rfl rfl) <|
   ev_a (ok_get X hP (ci := 15) (kf := 5) (T := TX10) (by decide +kernel : decode cX10_commit 46 = .ok (.getfield 40, 3)) rfl ev_in15 (by decide) ev_w353 (Or.inl rfl) rfl) <|
   ev_a (ok_no) <| ev_a0) <|
  ev_b (
   ev_a (ok_no) <|
   ev_a (ok_ald_n X hP (by decide +kernel : decode cX10_commit 49 = .ok (.aload_n 0, 1)) rfl rfl) <|
   ev_a (ok_get X hP (ci := 15) (kf := 0) (T := TX10) (by decide +kernel : decode cX10_commit 50 = .ok (.getfield 10, 3)) rfl ev_in15 (by decide) ev_w348 (Or.inl rfl) rfl) <|
   ev_a (ok_no) <|
   ev_a (ok_no) <|
   ev_a (ok_invV X hP hR hd2 hcf (ci := 14) ev_y73 rfl (by decide +kernel : decode cX10_commit 53 = .ok (.invokevirtual 120, 3)) ev_w687 ev_w684 ev_w685 ev_w686 ev_w75 ⟨rfl, ev_dn73⟩ (by decide) rfl) <|
   ev_a (ok_no) <|
   ev_a (ok_no) <|
   ev_a (ok_if_le X hP (by decide +kernel : decode cX10_commit 56 = .ok (.ifCond .le 13, 3)) (by decide) rfl) <|
   ev_a (ok_no) <|
   ev_a (ok_no) <|
   ev_a (ok_no) <|
   ev_a (ok_no) <|
   ev_a (ok_no) <|
   ev_a (ok_dup X hP (by decide +kernel : decode cX10_commit 62 = .ok (.dup, 1)) rfl) <|
   ev_a (ok_no) <| ev_a0) <|
  ev_b (
   ev_a (ok_no) <|
   ev_a (ok_no) <|
   ev_a (ok_no) <|
   ev_a (ok_no) <|
   ev_a (ok_no) <|
   ev_a (ok_ald_n X hP (by decide +kernel : decode cX10_commit 69 = .ok (.aload_n 0, 1)) rfl rfl) <|
   ev_a (ok_dup X hP (by decide +kernel : decode cX10_commit 70 = .ok (.dup, 1)) rfl) <|
   ev_a (ok_get X hP (ci := 15) (kf := 12) (T := TX10) (by decide +kernel : decode cX10_commit 71 = .ok (.getfield 103, 3)) rfl ev_in15 (by decide) ev_w360 (Or.inl rfl) rfl) <|
   ev_a (ok_no) <|
   ev_a (ok_no) <|
   ev_a (ok_psh_iconst X hP (by decide +kernel : decode cX10_commit 74 = .ok (.iconst 1, 1)) rfl) <|
   ev_a (ok_iadd X hP (by decide +kernel : decode cX10_commit 75 = .ok (.iadd, 1)) rfl) <|
   ev_a (ok_put X hP (ci := 15) (kf := 12) (T := TX10) tyX10 (by decide +kernel : decode cX10_commit 76 = .ok (.putfield 103, 3)) rfl ev_in15 tyX10_ok nmX10 (by decide) ev_w360 (Or.inl rfl) rfl rfl rfl) <|
   ev_a (ok_no) <|
   ev_a (ok_no) <|
   ev_a (ok_ald_n X hP (by decide +kernel : decode cX10_commit 79 = .ok (.aload_n 0, 1)) rfl rfl) <| ev_a0) <|
  ev_b (
   ev_a (ok_get X hP (ci := 15) (kf := 2) (T := TX10) (by decide +kernel : decode cX10_commit 80 = .ok (.getfield 26, 3)) rfl ev_in15 (by decide) ev_w350 (Or.inl rfl) rfl) <|
   ev_a (ok_no) <|
   ev_a (ok_no) <|
   ev_a (ok_ald_n X hP (by decide +kernel : decode cX10_commit 83 = .ok (.aload_n 0, 1)) rfl rfl) <|
   ev_a (ok_get X hP (ci := 15) (kf := 3) (T := TX10) (by decide +kernel : decode cX10_commit 84 = .ok (.getfield 30, 3)) rfl ev_in15 (by decide) ev_w351 (Or.inl rfl) rfl) <|
   ev_a (ok_no) <|
   ev_a (ok_no) <|
   ev_a (ok_invV X hP hR hd2 hcf (ci := 12) ev_y65 rfl (by decide +kernel : decode cX10_commit 87 = .ok (.invokevirtual 126, 3)) ev_w663 ev_w660 ev_w661 ev_w662 ev_w74 ⟨rfl, ev_dn65⟩ (by decide) rfl) <|
   ev_a (ok_no) <|
   ev_a (ok_no) <|
   ev_a (ok_ald_n X hP (by decide +kernel : decode cX10_commit 90 = .ok (.aload_n 0, 1)) rfl rfl) <|
   ev_a (ok_get X hP (ci := 15) (kf := 1) (T := TX10) (by decide +kernel : decode cX10_commit 91 = .ok (.getfield 19, 3)) rfl ev_in15 (by decide) ev_w349 (Or.inl rfl) rfl) <|
   ev_a (ok_no) <|
   ev_a (ok_no) <|
   ev_a (ok_invV X hP hR hd2 hcf (ci := 5) ev_y20 rfl (by decide +kernel : decode cX10_commit 94 = .ok (.invokevirtual 99, 3)) ev_w404 ev_w401 ev_w402 ev_w403 ev_w73 ⟨rfl, ev_dn20⟩ (by decide) rfl) <|
   ev_a (ok_no) <| ev_a0) <|
  ev_b (
   ev_a (ok_no) <|
   ev_a (ok_drop X hP (by decide +kernel : decode cX10_commit 97 = .ok (.pop, 1)) rfl) <|
   ev_a (ok_ald_n X hP (by decide +kernel : decode cX10_commit 98 = .ok (.aload_n 0, 1)) rfl rfl) <|
   ev_a (ok_invV X hP hR hd2 hcf (ci := 15) ev_y33 rfl (by decide +kernel : decode cX10_commit 99 = .ok (.invokevirtual 130, 3)) ev_w448 ev_w445 ev_w447 ev_w2 ev_w71 ⟨rfl, ev_dn33⟩ (by decide) rfl) <|
   ev_a (ok_no) <|
   ev_a (ok_no) <|
   ev_a (ok_ald_n X hP (by decide +kernel : decode cX10_commit 102 = .ok (.aload_n 0, 1)) rfl rfl) <|
   ev_a (ok_get X hP (ci := 15) (kf := 12) (T := TX10) (by decide +kernel : decode cX10_commit 103 = .ok (.getfield 103, 3)) rfl ev_in15 (by decide) ev_w360 (Or.inl rfl) rfl) <|
   ev_a (ok_no) <|
   ev_a (ok_no) <|
   ev_a (ok_ireturn X hP hQ hfin rfl (by decide +kernel : decode cX10_commit 106 = .ok (.ireturn, 1))) <| ev_a0) <|
  ev_b0
set_option maxRecDepth 100000 in
theorem ev_s27 {l : Launch} {d : Nat} {cf : Nat → List Value → ev_W → Option ev_R} {p : Program} {e : Env} {R : Room} {s : State} {m : MethodId} {args : Array Value} {below : List Frame} {meth : Method} {c : Code} {Q : State → Prop} {D : va_G} {G : Nat → ClassId} {ad : Nat → Nat} {A : Nat → Prop} {z wE nE : Nat} {P : Nat → List Value → List Value → ev_W → Nat → Prop} {α : Type} {r : α} {fin : Option Value → ev_W → Nat → Option α} (X : ev_X cX10_copy 4 yX10_copy.cls none p s m args meth c D G ad A z) (hP : ev_PP p l e R s m args below meth c Q 4 D G ad A z wE nE P) (hR : wE - z ≤ R.cells ∧ nE ≤ R.slots) (hd2 : d + 1 ≤ R.frames ∧ 64 * (d + 1) ≤ R.locals) (hR1 : 1 ≤ R.frames) (hR2 : 21 ≤ R.locals) (hcf : ev_cf l ev_ys d cf) {Qc : Array Value → State → Outcome → State → Prop} (hQ : Q = MQ below Qc args s (wE - z) nE A) (hfin : ∀ v w n, fin v w n = some r → w.length = wE ∧ n = nE ∧ ∀ H locs, ev_H D G ad A w H → va_S A s.heap H locs → ∀ t : State, t.heap = H → s.WarmedH t.vm → Qc args s (.returned (v.map (ev_v ad))) t) : ev_all2 (ev_ok P r) 0 (ev_o27 cf fin) :=
  ev_b (
   ev_a (ok_psh_iconst X hP (by decide +kernel : decode cX10_copy 0 = .ok (.iconst 0, 1)) rfl) <|
   ev_a (ok_ist_n X hP (by decide +kernel : decode cX10_copy 1 = .ok (.istore_n 3, 1)) rfl (by decide) rfl) <|
   ev_a (ok_ild_n X hP (by decide +kernel : decode cX10_copy 2 = .ok (.iload_n 3, 1)) rfl rfl) <|
   ev_a (ok_ild_n X hP (by decide +kernel : decode cX10_copy 3 = .ok (.iload_n 2, 1)) rfl rfl) <|
   ev_a (ok_icmp_ge X hP (by decide +kernel : decode cX10_copy 4 = .ok (.if_icmp .ge 27, 3)) (by decide) rfl) <|
   ev_a (ok_no) <|
   ev_a (ok_no) <|
   ev_a (ok_ild_n X hP (by decide +kernel : decode cX10_copy 7 = .ok (.iload_n 3, 1)) rfl rfl) <|
   ev_a (ok_ald_n X hP (by decide +kernel : decode cX10_copy 8 = .ok (.aload_n 0, 1)) rfl rfl) <|
   ev_a (ok_aln X hP (by decide +kernel : decode cX10_copy 9 = .ok (.arraylength, 1)) rfl) <|
   ev_a (ok_icmp_ge X hP (by decide +kernel : decode cX10_copy 10 = .ok (.if_icmp .ge 21, 3)) (by decide) rfl) <|
   ev_a (ok_no) <|
   ev_a (ok_no) <|
   ev_a (ok_ild_n X hP (by decide +kernel : decode cX10_copy 13 = .ok (.iload_n 3, 1)) rfl rfl) <|
   ev_a (ok_ald_n X hP (by decide +kernel : decode cX10_copy 14 = .ok (.aload_n 1, 1)) rfl rfl) <|
   ev_a (ok_aln X hP (by decide +kernel : decode cX10_copy 15 = .ok (.arraylength, 1)) rfl) <| ev_a0) <|
  ev_b (
   ev_a (ok_icmp_ge X hP (by decide +kernel : decode cX10_copy 16 = .ok (.if_icmp .ge 15, 3)) (by decide) rfl) <|
   ev_a (ok_no) <|
   ev_a (ok_no) <|
   ev_a (ok_ald_n X hP (by decide +kernel : decode cX10_copy 19 = .ok (.aload_n 1, 1)) rfl rfl) <|
   ev_a (ok_ild_n X hP (by decide +kernel : decode cX10_copy 20 = .ok (.iload_n 3, 1)) rfl rfl) <|
   ev_a (ok_ald_n X hP (by decide +kernel : decode cX10_copy 21 = .ok (.aload_n 0, 1)) rfl rfl) <|
   ev_a (ok_ild_n X hP (by decide +kernel : decode cX10_copy 22 = .ok (.iload_n 3, 1)) rfl rfl) <|
   ev_a (ok_ialoads X hP (by decide +kernel : decode cX10_copy 23 = .ok (.iaload, 1)) rfl) <|
   ev_a (ok_iastores X hP (by decide +kernel : decode cX10_copy 24 = .ok (.iastore, 1)) rfl) <|
   ev_a (ok_inc X hP (by decide +kernel : decode cX10_copy 25 = .ok (.iinc 3 1, 3)) (by decide) rfl) <|
   ev_a (ok_no) <|
   ev_a (ok_no) <|
   ev_a (ok_jmp X hP (by decide +kernel : decode cX10_copy 28 = .ok (.goto (-26), 3)) (by decide)) <|
   ev_a (ok_no) <|
   ev_a (ok_no) <|
   ev_a (ok_return X hP hQ hfin rfl (by decide +kernel : decode cX10_copy 31 = .ok (.return_, 1))) <| ev_a0) <|
  ev_b0
set_option maxRecDepth 100000 in
theorem ev_s28 {l : Launch} {d : Nat} {cf : Nat → List Value → ev_W → Option ev_R} {p : Program} {e : Env} {R : Room} {s : State} {m : MethodId} {args : Array Value} {below : List Frame} {meth : Method} {c : Code} {Q : State → Prop} {D : va_G} {G : Nat → ClassId} {ad : Nat → Nat} {A : Nat → Prop} {z wE nE : Nat} {P : Nat → List Value → List Value → ev_W → Nat → Prop} {α : Type} {r : α} {fin : Option Value → ev_W → Nat → Option α} (X : ev_X cX10_fill 3 yX10_fill.cls none p s m args meth c D G ad A z) (hP : ev_PP p l e R s m args below meth c Q 3 D G ad A z wE nE P) (hR : wE - z ≤ R.cells ∧ nE ≤ R.slots) (hd2 : d + 1 ≤ R.frames ∧ 64 * (d + 1) ≤ R.locals) (hR1 : 1 ≤ R.frames) (hR2 : 21 ≤ R.locals) (hcf : ev_cf l ev_ys d cf) {Qc : Array Value → State → Outcome → State → Prop} (hQ : Q = MQ below Qc args s (wE - z) nE A) (hfin : ∀ v w n, fin v w n = some r → w.length = wE ∧ n = nE ∧ ∀ H locs, ev_H D G ad A w H → va_S A s.heap H locs → ∀ t : State, t.heap = H → s.WarmedH t.vm → Qc args s (.returned (v.map (ev_v ad))) t) : ev_all2 (ev_ok P r) 0 (ev_o28 cf fin) :=
  ev_b (
   ev_a (ok_psh_iconst X hP (by decide +kernel : decode cX10_fill 0 = .ok (.iconst 0, 1)) rfl) <|
   ev_a (ok_ist_n X hP (by decide +kernel : decode cX10_fill 1 = .ok (.istore_n 2, 1)) rfl (by decide) rfl) <|
   ev_a (ok_ild_n X hP (by decide +kernel : decode cX10_fill 2 = .ok (.iload_n 2, 1)) rfl rfl) <|
   ev_a (ok_ald_n X hP (by decide +kernel : decode cX10_fill 3 = .ok (.aload_n 0, 1)) rfl rfl) <|
   ev_a (ok_aln X hP (by decide +kernel : decode cX10_fill 4 = .ok (.arraylength, 1)) rfl) <|
   ev_a (ok_icmp_ge X hP (by decide +kernel : decode cX10_fill 5 = .ok (.if_icmp .ge 13, 3)) (by decide) rfl) <|
   ev_a (ok_no) <|
   ev_a (ok_no) <|
   ev_a (ok_ald_n X hP (by decide +kernel : decode cX10_fill 8 = .ok (.aload_n 0, 1)) rfl rfl) <|
   ev_a (ok_ild_n X hP (by decide +kernel : decode cX10_fill 9 = .ok (.iload_n 2, 1)) rfl rfl) <|
   ev_a (ok_ild_n X hP (by decide +kernel : decode cX10_fill 10 = .ok (.iload_n 1, 1)) rfl rfl) <|
   ev_a (ok_iastores X hP (by decide +kernel : decode cX10_fill 11 = .ok (.iastore, 1)) rfl) <|
   ev_a (ok_inc X hP (by decide +kernel : decode cX10_fill 12 = .ok (.iinc 2 1, 3)) (by decide) rfl) <|
   ev_a (ok_no) <|
   ev_a (ok_no) <|
   ev_a (ok_jmp X hP (by decide +kernel : decode cX10_fill 15 = .ok (.goto (-13), 3)) (by decide)) <| ev_a0) <|
  ev_b (
   ev_a (ok_no) <|
   ev_a (ok_no) <|
   ev_a (ok_return X hP hQ hfin rfl (by decide +kernel : decode cX10_fill 18 = .ok (.return_, 1))) <| ev_a0) <|
  ev_b0
set_option maxRecDepth 100000 in
theorem ev_s29 {l : Launch} {d : Nat} {cf : Nat → List Value → ev_W → Option ev_R} {p : Program} {e : Env} {R : Room} {s : State} {m : MethodId} {args : Array Value} {below : List Frame} {meth : Method} {c : Code} {Q : State → Prop} {D : va_G} {G : Nat → ClassId} {ad : Nat → Nat} {A : Nat → Prop} {z wE nE : Nat} {P : Nat → List Value → List Value → ev_W → Nat → Prop} {α : Type} {r : α} {fin : Option Value → ev_W → Nat → Option α} (X : ev_X cX10_init 1 yX10_init.cls none p s m args meth c D G ad A z) (hP : ev_PP p l e R s m args below meth c Q 1 D G ad A z wE nE P) (hR : wE - z ≤ R.cells ∧ nE ≤ R.slots) (hd2 : d + 1 ≤ R.frames ∧ 64 * (d + 1) ≤ R.locals) (hR1 : 1 ≤ R.frames) (hR2 : 21 ≤ R.locals) (hcf : ev_cf l ev_ys d cf) (hin2 : meth.name = "<init>") {Qc : Array Value → State → Outcome → State → Prop} (hQ : Q = MQ below Qc args s (wE - z) nE A) (hfin : ∀ v w n, fin v w n = some r → w.length = wE ∧ n = nE ∧ ∀ H locs, ev_H D G ad A w H → va_S A s.heap H locs → ∀ t : State, t.heap = H → s.WarmedH t.vm → Qc args s (.returned (v.map (ev_v ad))) t) : ev_all2 (ev_ok P r) 0 (ev_o29 cf fin) :=
  ev_b (
   ev_a (ok_ald_n X hP (by decide +kernel : decode cX10_init 0 = .ok (.aload_n 0, 1)) rfl rfl) <|
   ev_a (ok_obj X hP hR1 hR2 (by decide +kernel : decode cX10_init 1 = .ok (.invokespecial 1, 3)) ev_w114 ev_w115 ev_w116 rfl) <|
   ev_a (ok_no) <|
   ev_a (ok_no) <|
   ev_a (ok_ald_n X hP (by decide +kernel : decode cX10_init 4 = .ok (.aload_n 0, 1)) rfl rfl) <|
   ev_a (ok_new X hP hR (ci := 9) (N := 2) (T := TX4) tyX4 (by decide +kernel : decode cX10_init 5 = .ok (.new 7, 3)) rfl ev_in9 tyX4_ok ev_w117 ev_w118 ev_w72 (by decide +kernel) rfl ⟨rfl, by decide⟩ rfl) <|
   ev_a (ok_no) <|
   ev_a (ok_no) <|
   ev_a (ok_dup X hP (by decide +kernel : decode cX10_init 8 = .ok (.dup, 1)) rfl) <|
   ev_a (ok_invI X hP hR hd2 hcf ev_y60 (by decide +kernel : decode cX10_init 9 = .ok (.invokespecial 9, 3)) ev_w121 ev_w119 ev_w120 ev_w72 rfl ev_dn60 (by decide) rfl) <|
   ev_a (ok_no) <|
   ev_a (ok_no) <|
   ev_a (ok_putF X hP hin2 (ci := 15) (kf := 0) (T := TX10) tyX10 (by decide +kernel : decode cX10_init 12 = .ok (.putfield 10, 3)) rfl ev_in15 tyX10_ok nmX10 (by decide) ev_w348 (Or.inl rfl) rfl rfl rfl rfl) <|
   ev_a (ok_no) <|
   ev_a (ok_no) <|
   ev_a (ok_ald_n X hP (by decide +kernel : decode cX10_init 15 = .ok (.aload_n 0, 1)) rfl rfl) <| ev_a0) <|
  ev_b (
   ev_a (ok_new X hP hR (ci := 5) (N := 3) (T := TX0) tyX0 (by decide +kernel : decode cX10_init 16 = .ok (.new 16, 3)) rfl ev_in5 tyX0_ok ev_w137 ev_w138 ev_w73 (by decide +kernel) rfl ⟨rfl, by decide⟩ rfl) <|
   ev_a (ok_no) <|
   ev_a (ok_no) <|
   ev_a (ok_dup X hP (by decide +kernel : decode cX10_init 19 = .ok (.dup, 1)) rfl) <|
   ev_a (ok_invIN X hP hR hd2 hcf ev_y21 (by decide +kernel : decode cX10_init 20 = .ok (.invokespecial 18, 3)) ev_w141 ev_w139 ev_w140 ev_w73 rfl ev_dn21 (by decide) rfl) <|
   ev_a (ok_no) <|
   ev_a (ok_no) <|
   ev_a (ok_putF X hP hin2 (ci := 15) (kf := 1) (T := TX10) tyX10 (by decide +kernel : decode cX10_init 23 = .ok (.putfield 19, 3)) rfl ev_in15 tyX10_ok nmX10 (by decide) ev_w349 (Or.inl rfl) rfl rfl rfl rfl) <|
   ev_a (ok_no) <|
   ev_a (ok_no) <|
   ev_a (ok_ald_n X hP (by decide +kernel : decode cX10_init 26 = .ok (.aload_n 0, 1)) rfl rfl) <|
   ev_a (ok_new X hP hR (ci := 12) (N := 6) (T := TX7) tyX7 (by decide +kernel : decode cX10_init 27 = .ok (.new 23, 3)) rfl ev_in12 tyX7_ok ev_w157 ev_w158 ev_w74 (by decide +kernel) rfl ⟨rfl, by decide⟩ rfl) <|
   ev_a (ok_no) <|
   ev_a (ok_no) <|
   ev_a (ok_dup X hP (by decide +kernel : decode cX10_init 30 = .ok (.dup, 1)) rfl) <|
   ev_a (ok_invIN X hP hR hd2 hcf ev_y68 (by decide +kernel : decode cX10_init 31 = .ok (.invokespecial 25, 3)) ev_w161 ev_w159 ev_w160 ev_w74 rfl ev_dn68 (by decide) rfl) <| ev_a0) <|
  ev_b (
   ev_a (ok_no) <|
   ev_a (ok_no) <|
   ev_a (ok_putF X hP hin2 (ci := 15) (kf := 2) (T := TX10) tyX10 (by decide +kernel : decode cX10_init 34 = .ok (.putfield 26, 3)) rfl ev_in15 tyX10_ok nmX10 (by decide) ev_w350 (Or.inl rfl) rfl rfl rfl rfl) <|
   ev_a (ok_no) <|
   ev_a (ok_no) <|
   ev_a (ok_ald_n X hP (by decide +kernel : decode cX10_init 37 = .ok (.aload_n 0, 1)) rfl rfl) <|
   ev_a (ok_new X hP hR (ci := 12) (N := 6) (T := TX7) tyX7 (by decide +kernel : decode cX10_init 38 = .ok (.new 23, 3)) rfl ev_in12 tyX7_ok ev_w157 ev_w158 ev_w74 (by decide +kernel) rfl ⟨rfl, by decide⟩ rfl) <|
   ev_a (ok_no) <|
   ev_a (ok_no) <|
   ev_a (ok_dup X hP (by decide +kernel : decode cX10_init 41 = .ok (.dup, 1)) rfl) <|
   ev_a (ok_invIN X hP hR hd2 hcf ev_y68 (by decide +kernel : decode cX10_init 42 = .ok (.invokespecial 25, 3)) ev_w161 ev_w159 ev_w160 ev_w74 rfl ev_dn68 (by decide) rfl) <|
   ev_a (ok_no) <|
   ev_a (ok_no) <|
   ev_a (ok_putF X hP hin2 (ci := 15) (kf := 3) (T := TX10) tyX10 (by decide +kernel : decode cX10_init 45 = .ok (.putfield 30, 3)) rfl ev_in15 tyX10_ok nmX10 (by decide) ev_w351 (Or.inl rfl) rfl rfl rfl rfl) <|
   ev_a (ok_no) <|
   ev_a (ok_no) <| ev_a0) <|
  ev_b (
   ev_a (ok_ald_n X hP (by decide +kernel : decode cX10_init 48 = .ok (.aload_n 0, 1)) rfl rfl) <|
   ev_a (ok_new X hP hR (ci := 14) (N := 1) (T := TX9) tyX9 (by decide +kernel : decode cX10_init 49 = .ok (.new 33, 3)) rfl ev_in14 tyX9_ok ev_w188 ev_w189 ev_w75 (by decide +kernel) rfl ⟨rfl, by decide⟩ rfl) <|
   ev_a (ok_no) <|
   ev_a (ok_no) <|
   ev_a (ok_dup X hP (by decide +kernel : decode cX10_init 52 = .ok (.dup, 1)) rfl) <|
   ev_a (ok_invIN X hP hR hd2 hcf ev_y75 (by decide +kernel : decode cX10_init 53 = .ok (.invokespecial 35, 3)) ev_w192 ev_w190 ev_w191 ev_w75 rfl ev_dn75 (by decide) rfl) <|
   ev_a (ok_no) <|
   ev_a (ok_no) <|
   ev_a (ok_putF X hP hin2 (ci := 15) (kf := 4) (T := TX10) tyX10 (by decide +kernel : decode cX10_init 56 = .ok (.putfield 36, 3)) rfl ev_in15 tyX10_ok nmX10 (by decide) ev_w352 (Or.inl rfl) rfl rfl rfl rfl) <|
   ev_a (ok_no) <|
   ev_a (ok_no) <|
   ev_a (ok_ald_n X hP (by decide +kernel : decode cX10_init 59 = .ok (.aload_n 0, 1)) rfl rfl) <|
   ev_a (ok_new X hP hR (ci := 14) (N := 1) (T := TX9) tyX9 (by decide +kernel : decode cX10_init 60 = .ok (.new 33, 3)) rfl ev_in14 tyX9_ok ev_w188 ev_w189 ev_w75 (by decide +kernel) rfl ⟨rfl, by decide⟩ rfl) <|
   ev_a (ok_no) <|
   ev_a (ok_no) <|
   ev_a (ok_dup X hP (by decide +kernel : decode cX10_init 63 = .ok (.dup, 1)) rfl) <| ev_a0) <|
  ev_b (
   ev_a (ok_invIN X hP hR hd2 hcf ev_y75 (by decide +kernel : decode cX10_init 64 = .ok (.invokespecial 35, 3)) ev_w192 ev_w190 ev_w191 ev_w75 rfl ev_dn75 (by decide) rfl) <|
   ev_a (ok_no) <|
   ev_a (ok_no) <|
   ev_a (ok_putF X hP hin2 (ci := 15) (kf := 5) (T := TX10) tyX10 (by decide +kernel : decode cX10_init 67 = .ok (.putfield 40, 3)) rfl ev_in15 tyX10_ok nmX10 (by decide) ev_w353 (Or.inl rfl) rfl rfl rfl rfl) <|
   ev_a (ok_no) <|
   ev_a (ok_no) <|
   ev_a (ok_ald_n X hP (by decide +kernel : decode cX10_init 70 = .ok (.aload_n 0, 1)) rfl rfl) <|
   ev_a (ok_new X hP hR (ci := 13) (N := 4) (T := TX8) tyX8 (by decide +kernel : decode cX10_init 71 = .ok (.new 43, 3)) rfl ev_in13 tyX8_ok ev_w198 ev_w199 ev_w76 (by decide +kernel) rfl ⟨rfl, by decide⟩ rfl) <|
   ev_a (ok_no) <|
   ev_a (ok_no) <|
   ev_a (ok_dup X hP (by decide +kernel : decode cX10_init 74 = .ok (.dup, 1)) rfl) <|
   ev_a (ok_invIN X hP hR hd2 hcf ev_y72 (by decide +kernel : decode cX10_init 75 = .ok (.invokespecial 45, 3)) ev_w202 ev_w200 ev_w201 ev_w76 rfl ev_dn72 (by decide) rfl) <|
   ev_a (ok_no) <|
   ev_a (ok_no) <|
   ev_a (ok_putF X hP hin2 (ci := 15) (kf := 6) (T := TX10) tyX10 (by decide +kernel : decode cX10_init 78 = .ok (.putfield 46, 3)) rfl ev_in15 tyX10_ok nmX10 (by decide) ev_w354 (Or.inl rfl) rfl rfl rfl rfl) <|
   ev_a (ok_no) <| ev_a0) <|
  ev_b (
   ev_a (ok_no) <|
   ev_a (ok_ald_n X hP (by decide +kernel : decode cX10_init 81 = .ok (.aload_n 0, 1)) rfl rfl) <|
   ev_a (ok_new X hP hR (ci := 8) (N := 6) (T := TX3) tyX3 (by decide +kernel : decode cX10_init 82 = .ok (.new 50, 3)) rfl ev_in8 tyX3_ok ev_w223 ev_w224 ev_w77 (by decide +kernel) rfl ⟨rfl, by decide⟩ rfl) <|
   ev_a (ok_no) <|
   ev_a (ok_no) <|
   ev_a (ok_dup X hP (by decide +kernel : decode cX10_init 85 = .ok (.dup, 1)) rfl) <|
   ev_a (ok_invIN X hP hR hd2 hcf ev_y57 (by decide +kernel : decode cX10_init 86 = .ok (.invokespecial 52, 3)) ev_w227 ev_w225 ev_w226 ev_w77 rfl ev_dn57 (by decide) rfl) <|
   ev_a (ok_no) <|
   ev_a (ok_no) <|
   ev_a (ok_putF X hP hin2 (ci := 15) (kf := 7) (T := TX10) tyX10 (by decide +kernel : decode cX10_init 89 = .ok (.putfield 53, 3)) rfl ev_in15 tyX10_ok nmX10 (by decide) ev_w355 (Or.inl rfl) rfl rfl rfl rfl) <|
   ev_a (ok_no) <|
   ev_a (ok_no) <|
   ev_a (ok_ald_n X hP (by decide +kernel : decode cX10_init 92 = .ok (.aload_n 0, 1)) rfl rfl) <|
   ev_a (ok_new X hP hR (ci := 7) (N := 3) (T := TX2) tyX2 (by decide +kernel : decode cX10_init 93 = .ok (.new 57, 3)) rfl ev_in7 tyX2_ok ev_w272 ev_w273 ev_w79 (by decide +kernel) rfl ⟨rfl, by decide⟩ rfl) <|
   ev_a (ok_no) <|
   ev_a (ok_no) <| ev_a0) <|
  ev_b (
   ev_a (ok_dup X hP (by decide +kernel : decode cX10_init 96 = .ok (.dup, 1)) rfl) <|
   ev_a (ok_invIN X hP hR hd2 hcf ev_y56 (by decide +kernel : decode cX10_init 97 = .ok (.invokespecial 59, 3)) ev_w276 ev_w274 ev_w275 ev_w79 rfl ev_dn56 (by decide) rfl) <|
   ev_a (ok_no) <|
   ev_a (ok_no) <|
   ev_a (ok_putF X hP hin2 (ci := 15) (kf := 8) (T := TX10) tyX10 (by decide +kernel : decode cX10_init 100 = .ok (.putfield 60, 3)) rfl ev_in15 tyX10_ok nmX10 (by decide) ev_w356 (Or.inl rfl) rfl rfl rfl rfl) <|
   ev_a (ok_no) <|
   ev_a (ok_no) <|
   ev_a (ok_ald_n X hP (by decide +kernel : decode cX10_init 103 = .ok (.aload_n 0, 1)) rfl rfl) <|
   ev_a (ok_new X hP hR (ci := 7) (N := 3) (T := TX2) tyX2 (by decide +kernel : decode cX10_init 104 = .ok (.new 57, 3)) rfl ev_in7 tyX2_ok ev_w272 ev_w273 ev_w79 (by decide +kernel) rfl ⟨rfl, by decide⟩ rfl) <|
   ev_a (ok_no) <|
   ev_a (ok_no) <|
   ev_a (ok_dup X hP (by decide +kernel : decode cX10_init 107 = .ok (.dup, 1)) rfl) <|
   ev_a (ok_invIN X hP hR hd2 hcf ev_y56 (by decide +kernel : decode cX10_init 108 = .ok (.invokespecial 59, 3)) ev_w276 ev_w274 ev_w275 ev_w79 rfl ev_dn56 (by decide) rfl) <|
   ev_a (ok_no) <|
   ev_a (ok_no) <|
   ev_a (ok_putF X hP hin2 (ci := 15) (kf := 9) (T := TX10) tyX10 (by decide +kernel : decode cX10_init 111 = .ok (.putfield 64, 3)) rfl ev_in15 tyX10_ok nmX10 (by decide) ev_w357 (Or.inl rfl) rfl rfl rfl rfl) <| ev_a0) <|
  ev_b (
   ev_a (ok_no) <|
   ev_a (ok_no) <|
   ev_a (ok_ald_n X hP (by decide +kernel : decode cX10_init 114 = .ok (.aload_n 0, 1)) rfl rfl) <|
   ev_a (ok_new X hP hR (ci := 10) (N := 3) (T := TX5) tyX5 (by decide +kernel : decode cX10_init 115 = .ok (.new 67, 3)) rfl ev_in10 tyX5_ok ev_w290 ev_w291 ev_w80 (by decide +kernel) rfl ⟨rfl, by decide⟩ rfl) <|
   ev_a (ok_no) <|
   ev_a (ok_no) <|
   ev_a (ok_dup X hP (by decide +kernel : decode cX10_init 118 = .ok (.dup, 1)) rfl) <|
   ev_a (ok_invIN X hP hR hd2 hcf ev_y62 (by decide +kernel : decode cX10_init 119 = .ok (.invokespecial 69, 3)) ev_w294 ev_w292 ev_w293 ev_w80 rfl ev_dn62 (by decide) rfl) <|
   ev_a (ok_no) <|
   ev_a (ok_no) <|
   ev_a (ok_putF X hP hin2 (ci := 15) (kf := 10) (T := TX10) tyX10 (by decide +kernel : decode cX10_init 122 = .ok (.putfield 70, 3)) rfl ev_in15 tyX10_ok nmX10 (by decide) ev_w358 (Or.inl rfl) rfl rfl rfl rfl) <|
   ev_a (ok_no) <|
   ev_a (ok_no) <|
   ev_a (ok_ald_n X hP (by decide +kernel : decode cX10_init 125 = .ok (.aload_n 0, 1)) rfl rfl) <|
   ev_a (ok_new X hP hR (ci := 11) (N := 9) (T := TX6) tyX6 (by decide +kernel : decode cX10_init 126 = .ok (.new 74, 3)) rfl ev_in11 tyX6_ok ev_w309 ev_w310 ev_w81 (by decide +kernel) rfl ⟨rfl, by decide⟩ rfl) <|
   ev_a (ok_no) <| ev_a0) <|
  ev_b (
   ev_a (ok_no) <|
   ev_a (ok_dup X hP (by decide +kernel : decode cX10_init 129 = .ok (.dup, 1)) rfl) <|
   ev_a (ok_invIN X hP hR hd2 hcf ev_y63 (by decide +kernel : decode cX10_init 130 = .ok (.invokespecial 76, 3)) ev_w313 ev_w311 ev_w312 ev_w81 rfl ev_dn63 (by decide) rfl) <|
   ev_a (ok_no) <|
   ev_a (ok_no) <|
   ev_a (ok_putF X hP hin2 (ci := 15) (kf := 11) (T := TX10) tyX10 (by decide +kernel : decode cX10_init 133 = .ok (.putfield 77, 3)) rfl ev_in15 tyX10_ok nmX10 (by decide) ev_w359 (Or.inl rfl) rfl rfl rfl rfl) <|
   ev_a (ok_no) <|
   ev_a (ok_no) <|
   ev_a (ok_return X hP hQ hfin rfl (by decide +kernel : decode cX10_init 136 = .ok (.return_, 1))) <| ev_a0) <|
  ev_b0
set_option maxRecDepth 100000 in
theorem ev_s30 {l : Launch} {d : Nat} {cf : Nat → List Value → ev_W → Option ev_R} {p : Program} {e : Env} {R : Room} {s : State} {m : MethodId} {args : Array Value} {below : List Frame} {meth : Method} {c : Code} {Q : State → Prop} {D : va_G} {G : Nat → ClassId} {ad : Nat → Nat} {A : Nat → Prop} {z wE nE : Nat} {P : Nat → List Value → List Value → ev_W → Nat → Prop} {α : Type} {r : α} {fin : Option Value → ev_W → Nat → Option α} (X : ev_X cX10_isIn 2 yX10_isIn.cls (some FieldType.boolean) p s m args meth c D G ad A z) (hP : ev_PP p l e R s m args below meth c Q 2 D G ad A z wE nE P) (hR : wE - z ≤ R.cells ∧ nE ≤ R.slots) (hd2 : d + 1 ≤ R.frames ∧ 64 * (d + 1) ≤ R.locals) (hR1 : 1 ≤ R.frames) (hR2 : 21 ≤ R.locals) (hcf : ev_cf l ev_ys d cf) {Qc : Array Value → State → Outcome → State → Prop} (hQ : Q = MQ below Qc args s (wE - z) nE A) (hfin : ∀ v w n, fin v w n = some r → w.length = wE ∧ n = nE ∧ ∀ H locs, ev_H D G ad A w H → va_S A s.heap H locs → ∀ t : State, t.heap = H → s.WarmedH t.vm → Qc args s (.returned (v.map (ev_v ad))) t) : ev_all2 (ev_ok P r) 0 (ev_o30 cf fin) :=
  ev_b (
   ev_a (ok_ild_n X hP (by decide +kernel : decode cX10_isIn 0 = .ok (.iload_n 0, 1)) rfl rfl) <|
   ev_a (ok_ild_n X hP (by decide +kernel : decode cX10_isIn 1 = .ok (.iload_n 1, 1)) rfl rfl) <|
   ev_a (ok_ishr X hP (by decide +kernel : decode cX10_isIn 2 = .ok (.ishr, 1)) rfl) <|
   ev_a (ok_psh_iconst X hP (by decide +kernel : decode cX10_isIn 3 = .ok (.iconst 1, 1)) rfl) <|
   ev_a (ok_iand X hP (by decide +kernel : decode cX10_isIn 4 = .ok (.iand, 1)) rfl) <|
   ev_a (ok_if_eq X hP (by decide +kernel : decode cX10_isIn 5 = .ok (.ifCond .eq 7, 3)) (by decide) rfl) <|
   ev_a (ok_no) <|
   ev_a (ok_no) <|
   ev_a (ok_psh_iconst X hP (by decide +kernel : decode cX10_isIn 8 = .ok (.iconst 1, 1)) rfl) <|
   ev_a (ok_jmp X hP (by decide +kernel : decode cX10_isIn 9 = .ok (.goto 4, 3)) (by decide)) <|
   ev_a (ok_no) <|
   ev_a (ok_no) <|
   ev_a (ok_psh_iconst X hP (by decide +kernel : decode cX10_isIn 12 = .ok (.iconst 0, 1)) rfl) <|
   ev_a (ok_zreturn X hP hQ hfin rfl (by decide +kernel : decode cX10_isIn 13 = .ok (.ireturn, 1))) <| ev_a0) <|
  ev_b0
set_option maxRecDepth 100000 in
theorem ev_s31 {l : Launch} {d : Nat} {cf : Nat → List Value → ev_W → Option ev_R} {p : Program} {e : Env} {R : Room} {s : State} {m : MethodId} {args : Array Value} {below : List Frame} {meth : Method} {c : Code} {Q : State → Prop} {D : va_G} {G : Nat → ClassId} {ad : Nat → Nat} {A : Nat → Prop} {z wE nE : Nat} {P : Nat → List Value → List Value → ev_W → Nat → Prop} {α : Type} {r : α} {fin : Option Value → ev_W → Nat → Option α} (X : ev_X cX10_put 3 yX10_put.cls none p s m args meth c D G ad A z) (hP : ev_PP p l e R s m args below meth c Q 3 D G ad A z wE nE P) (hR : wE - z ≤ R.cells ∧ nE ≤ R.slots) (hd2 : d + 1 ≤ R.frames ∧ 64 * (d + 1) ≤ R.locals) (hR1 : 1 ≤ R.frames) (hR2 : 21 ≤ R.locals) (hcf : ev_cf l ev_ys d cf) {Qc : Array Value → State → Outcome → State → Prop} (hQ : Q = MQ below Qc args s (wE - z) nE A) (hfin : ∀ v w n, fin v w n = some r → w.length = wE ∧ n = nE ∧ ∀ H locs, ev_H D G ad A w H → va_S A s.heap H locs → ∀ t : State, t.heap = H → s.WarmedH t.vm → Qc args s (.returned (v.map (ev_v ad))) t) : ev_all2 (ev_ok P r) 0 (ev_o31 cf fin) :=
  ev_b (
   ev_a (ok_ild_n X hP (by decide +kernel : decode cX10_put 0 = .ok (.iload_n 1, 1)) rfl rfl) <|
   ev_a (ok_if_lt X hP (by decide +kernel : decode cX10_put 1 = .ok (.ifCond .lt 13, 3)) (by decide) rfl) <|
   ev_a (ok_no) <|
   ev_a (ok_no) <|
   ev_a (ok_ild_n X hP (by decide +kernel : decode cX10_put 4 = .ok (.iload_n 1, 1)) rfl rfl) <|
   ev_a (ok_ald_n X hP (by decide +kernel : decode cX10_put 5 = .ok (.aload_n 0, 1)) rfl rfl) <|
   ev_a (ok_aln X hP (by decide +kernel : decode cX10_put 6 = .ok (.arraylength, 1)) rfl) <|
   ev_a (ok_icmp_ge X hP (by decide +kernel : decode cX10_put 7 = .ok (.if_icmp .ge 7, 3)) (by decide) rfl) <|
   ev_a (ok_no) <|
   ev_a (ok_no) <|
   ev_a (ok_ald_n X hP (by decide +kernel : decode cX10_put 10 = .ok (.aload_n 0, 1)) rfl rfl) <|
   ev_a (ok_ild_n X hP (by decide +kernel : decode cX10_put 11 = .ok (.iload_n 1, 1)) rfl rfl) <|
   ev_a (ok_ild_n X hP (by decide +kernel : decode cX10_put 12 = .ok (.iload_n 2, 1)) rfl rfl) <|
   ev_a (ok_iastores X hP (by decide +kernel : decode cX10_put 13 = .ok (.iastore, 1)) rfl) <|
   ev_a (ok_return X hP hQ hfin rfl (by decide +kernel : decode cX10_put 14 = .ok (.return_, 1))) <| ev_a0) <|
  ev_b0
set_option maxRecDepth 100000 in
theorem ev_s32 {l : Launch} {d : Nat} {cf : Nat → List Value → ev_W → Option ev_R} {p : Program} {e : Env} {R : Room} {s : State} {m : MethodId} {args : Array Value} {below : List Frame} {meth : Method} {c : Code} {Q : State → Prop} {D : va_G} {G : Nat → ClassId} {ad : Nat → Nat} {A : Nat → Prop} {z wE nE : Nat} {P : Nat → List Value → List Value → ev_W → Nat → Prop} {α : Type} {r : α} {fin : Option Value → ev_W → Nat → Option α} (X : ev_X cX10_tell 3 yX10_tell.cls (some FieldType.int) p s m args meth c D G ad A z) (hP : ev_PP p l e R s m args below meth c Q 3 D G ad A z wE nE P) (hR : wE - z ≤ R.cells ∧ nE ≤ R.slots) (hd2 : d + 1 ≤ R.frames ∧ 64 * (d + 1) ≤ R.locals) (hR1 : 1 ≤ R.frames) (hR2 : 21 ≤ R.locals) (hcf : ev_cf l ev_ys d cf) {Qc : Array Value → State → Outcome → State → Prop} (hQ : Q = MQ below Qc args s (wE - z) nE A) (hfin : ∀ v w n, fin v w n = some r → w.length = wE ∧ n = nE ∧ ∀ H locs, ev_H D G ad A w H → va_S A s.heap H locs → ∀ t : State, t.heap = H → s.WarmedH t.vm → Qc args s (.returned (v.map (ev_v ad))) t) : ev_all2 (ev_ok P r) 0 (ev_o32 cf fin) :=
  ev_b (
   ev_a (ok_ild_n X hP (by decide +kernel : decode cX10_tell 0 = .ok (.iload_n 1, 1)) rfl rfl) <|
   ev_a (ok_invS X hP hR hd2 hcf ev_y25 (by decide +kernel : decode cX10_tell 1 = .ok (.invokestatic 81, 3)) ev_w789 ev_w787 ev_w788 ev_w71 ev_dn25 (by decide) rfl) <|
   ev_a (ok_no) <|
   ev_a (ok_no) <|
   ev_a (ok_ild_n X hP (by decide +kernel : decode cX10_tell 4 = .ok (.iload_n 2, 1)) rfl rfl) <|
   ev_a (ok_psh_iconst X hP (by decide +kernel : decode cX10_tell 5 = .ok (.iconst 1, 1)) rfl) <|
   ev_a (ok_icmp_lt X hP (by decide +kernel : decode cX10_tell 6 = .ok (.if_icmp .lt 9, 3)) (by decide) rfl) <|
   ev_a (ok_no) <|
   ev_a (ok_no) <|
   ev_a (ok_ild_n X hP (by decide +kernel : decode cX10_tell 9 = .ok (.iload_n 2, 1)) rfl rfl) <|
   ev_a (ok_psh_bipush X hP (by decide +kernel : decode cX10_tell 10 = .ok (.bipush 9, 2)) rfl) <|
   ev_a (ok_no) <|
   ev_a (ok_icmp_le X hP (by decide +kernel : decode cX10_tell 12 = .ok (.if_icmp .le 13, 3)) (by decide) rfl) <|
   ev_a (ok_no) <|
   ev_a (ok_no) <|
   ev_a (ok_no) <| ev_a0) <|
  ev_b (
   ev_a (ok_no) <|
   ev_a (ok_no) <|
   ev_a (ok_dup X hP (by decide +kernel : decode cX10_tell 18 = .ok (.dup, 1)) rfl) <|
   ev_a (ok_no) <|
   ev_a (ok_no) <|
   ev_a (ok_no) <|
   ev_a (ok_no) <|
   ev_a (ok_no) <|
   ev_a (ok_no) <|
   ev_a (ok_ald_n X hP (by decide +kernel : decode cX10_tell 25 = .ok (.aload_n 0, 1)) rfl rfl) <|
   ev_a (ok_invV X hP hR hd2 hcf (ci := 15) ev_y24 rfl (by decide +kernel : decode cX10_tell 26 = .ok (.invokevirtual 92, 3)) ev_w862 ev_w859 ev_w861 ev_w34 ev_w71 ⟨rfl, ev_dn24⟩ (by decide) rfl) <|
   ev_a (ok_no) <|
   ev_a (ok_no) <|
   ev_a (ok_ald_n X hP (by decide +kernel : decode cX10_tell 29 = .ok (.aload_n 0, 1)) rfl rfl) <|
   ev_a (ok_get X hP (ci := 15) (kf := 1) (T := TX10) (by decide +kernel : decode cX10_tell 30 = .ok (.getfield 19, 3)) rfl ev_in15 (by decide) ev_w349 (Or.inl rfl) rfl) <|
   ev_a (ok_no) <| ev_a0) <|
  ev_b (
   ev_a (ok_no) <|
   ev_a (ok_ild_n X hP (by decide +kernel : decode cX10_tell 33 = .ok (.iload_n 1, 1)) rfl rfl) <|
   ev_a (ok_ild_n X hP (by decide +kernel : decode cX10_tell 34 = .ok (.iload_n 2, 1)) rfl rfl) <|
   ev_a (ok_invV X hP hR hd2 hcf (ci := 5) ev_y19 rfl (by decide +kernel : decode cX10_tell 35 = .ok (.invokevirtual 95, 3)) ev_w882 ev_w879 ev_w880 ev_w881 ev_w73 ⟨rfl, ev_dn19⟩ (by decide) rfl) <|
   ev_a (ok_no) <|
   ev_a (ok_no) <|
   ev_a (ok_ireturn X hP hQ hfin rfl (by decide +kernel : decode cX10_tell 38 = .ok (.ireturn, 1))) <| ev_a0) <|
  ev_b0
set_option maxRecDepth 100000 in
theorem ev_s33 {l : Launch} {d : Nat} {cf : Nat → List Value → ev_W → Option ev_R} {p : Program} {e : Env} {R : Room} {s : State} {m : MethodId} {args : Array Value} {below : List Frame} {meth : Method} {c : Code} {Q : State → Prop} {D : va_G} {G : Nat → ClassId} {ad : Nat → Nat} {A : Nat → Prop} {z wE nE : Nat} {P : Nat → List Value → List Value → ev_W → Nat → Prop} {α : Type} {r : α} {fin : Option Value → ev_W → Nat → Option α} (X : ev_X cX10_toldChanged 1 yX10_toldChanged.cls none p s m args meth c D G ad A z) (hP : ev_PP p l e R s m args below meth c Q 1 D G ad A z wE nE P) (hR : wE - z ≤ R.cells ∧ nE ≤ R.slots) (hd2 : d + 1 ≤ R.frames ∧ 64 * (d + 1) ≤ R.locals) (hR1 : 1 ≤ R.frames) (hR2 : 21 ≤ R.locals) (hcf : ev_cf l ev_ys d cf) {Qc : Array Value → State → Outcome → State → Prop} (hQ : Q = MQ below Qc args s (wE - z) nE A) (hfin : ∀ v w n, fin v w n = some r → w.length = wE ∧ n = nE ∧ ∀ H locs, ev_H D G ad A w H → va_S A s.heap H locs → ∀ t : State, t.heap = H → s.WarmedH t.vm → Qc args s (.returned (v.map (ev_v ad))) t) : ev_all2 (ev_ok P r) 0 (ev_o33 cf fin) :=
  ev_b (
   ev_a (ok_ald_n X hP (by decide +kernel : decode cX10_toldChanged 0 = .ok (.aload_n 0, 1)) rfl rfl) <|
   ev_a (ok_get X hP (ci := 15) (kf := 4) (T := TX10) (by decide +kernel : decode cX10_toldChanged 1 = .ok (.getfield 36, 3)) rfl ev_in15 (by decide) ev_w352 (Or.inl rfl) rfl) <|
   ev_a (ok_no) <|
   ev_a (ok_no) <|
   ev_a (ok_ald_n X hP (by decide +kernel : decode cX10_toldChanged 4 = .ok (.aload_n 0, 1)) rfl rfl) <|
   ev_a (ok_get X hP (ci := 15) (kf := 2) (T := TX10) (by decide +kernel : decode cX10_toldChanged 5 = .ok (.getfield 26, 3)) rfl ev_in15 (by decide) ev_w350 (Or.inl rfl) rfl) <|
   ev_a (ok_no) <|
   ev_a (ok_no) <|
   ev_a (ok_ald_n X hP (by decide +kernel : decode cX10_toldChanged 8 = .ok (.aload_n 0, 1)) rfl rfl) <|
   ev_a (ok_get X hP (ci := 15) (kf := 12) (T := TX10) (by decide +kernel : decode cX10_toldChanged 9 = .ok (.getfield 103, 3)) rfl ev_in15 (by decide) ev_w360 (Or.inl rfl) rfl) <|
   ev_a (ok_no) <|
   ev_a (ok_no) <|
   ev_a (ok_invV X hP hR hd2 hcf (ci := 14) ev_y74 rfl (by decide +kernel : decode cX10_toldChanged 12 = .ok (.invokevirtual 212, 3)) ev_w452 ev_w449 ev_w450 ev_w451 ev_w75 ⟨rfl, ev_dn74⟩ (by decide) rfl) <|
   ev_a (ok_no) <|
   ev_a (ok_no) <|
   ev_a (ok_ald_n X hP (by decide +kernel : decode cX10_toldChanged 15 = .ok (.aload_n 0, 1)) rfl rfl) <| ev_a0) <|
  ev_b (
   ev_a (ok_psh_iconst X hP (by decide +kernel : decode cX10_toldChanged 16 = .ok (.iconst 0, 1)) rfl) <|
   ev_a (ok_put X hP (ci := 15) (kf := 14) (T := TX10) tyX10 (by decide +kernel : decode cX10_toldChanged 17 = .ok (.putfield 306, 3)) rfl ev_in15 tyX10_ok nmX10 (by decide) ev_w362 (Or.inl rfl) rfl rfl rfl) <|
   ev_a (ok_no) <|
   ev_a (ok_no) <|
   ev_a (ok_ald_n X hP (by decide +kernel : decode cX10_toldChanged 20 = .ok (.aload_n 0, 1)) rfl rfl) <|
   ev_a (ok_psh_iconst X hP (by decide +kernel : decode cX10_toldChanged 21 = .ok (.iconst 0, 1)) rfl) <|
   ev_a (ok_put X hP (ci := 15) (kf := 15) (T := TX10) tyX10 (by decide +kernel : decode cX10_toldChanged 22 = .ok (.putfield 188, 3)) rfl ev_in15 tyX10_ok nmX10 (by decide) ev_w363 (Or.inl rfl) rfl rfl rfl) <|
   ev_a (ok_no) <|
   ev_a (ok_no) <|
   ev_a (ok_return X hP hQ hfin rfl (by decide +kernel : decode cX10_toldChanged 25 = .ok (.return_, 1))) <| ev_a0) <|
  ev_b0
set_option maxRecDepth 100000 in
theorem ev_s34 {l : Launch} {d : Nat} {cf : Nat → List Value → ev_W → Option ev_R} {p : Program} {e : Env} {R : Room} {s : State} {m : MethodId} {args : Array Value} {below : List Frame} {meth : Method} {c : Code} {Q : State → Prop} {D : va_G} {G : Nat → ClassId} {ad : Nat → Nat} {A : Nat → Prop} {z wE nE : Nat} {P : Nat → List Value → List Value → ev_W → Nat → Prop} {α : Type} {r : α} {fin : Option Value → ev_W → Nat → Option α} (X : ev_X cX10_tryBatch 1 yX10_tryBatch.cls none p s m args meth c D G ad A z) (hP : ev_PP p l e R s m args below meth c Q 1 D G ad A z wE nE P) (hR : wE - z ≤ R.cells ∧ nE ≤ R.slots) (hd2 : d + 1 ≤ R.frames ∧ 64 * (d + 1) ≤ R.locals) (hR1 : 1 ≤ R.frames) (hR2 : 21 ≤ R.locals) (hcf : ev_cf l ev_ys d cf) {Qc : Array Value → State → Outcome → State → Prop} (hQ : Q = MQ below Qc args s (wE - z) nE A) (hfin : ∀ v w n, fin v w n = some r → w.length = wE ∧ n = nE ∧ ∀ H locs, ev_H D G ad A w H → va_S A s.heap H locs → ∀ t : State, t.heap = H → s.WarmedH t.vm → Qc args s (.returned (v.map (ev_v ad))) t) : ev_all2 (ev_ok P r) 0 (ev_o34 cf fin) :=
  ev_b (
   ev_a (ok_ald_n X hP (by decide +kernel : decode cX10_tryBatch 0 = .ok (.aload_n 0, 1)) rfl rfl) <|
   ev_a (ok_get X hP (ci := 15) (kf := 3) (T := TX10) (by decide +kernel : decode cX10_tryBatch 1 = .ok (.getfield 30, 3)) rfl ev_in15 (by decide) ev_w351 (Or.inl rfl) rfl) <|
   ev_a (ok_no) <|
   ev_a (ok_no) <|
   ev_a (ok_ald_n X hP (by decide +kernel : decode cX10_tryBatch 4 = .ok (.aload_n 0, 1)) rfl rfl) <|
   ev_a (ok_get X hP (ci := 15) (kf := 2) (T := TX10) (by decide +kernel : decode cX10_tryBatch 5 = .ok (.getfield 26, 3)) rfl ev_in15 (by decide) ev_w350 (Or.inl rfl) rfl) <|
   ev_a (ok_no) <|
   ev_a (ok_no) <|
   ev_a (ok_invV X hP hR hd2 hcf (ci := 12) ev_y65 rfl (by decide +kernel : decode cX10_tryBatch 8 = .ok (.invokevirtual 126, 3)) ev_w663 ev_w660 ev_w661 ev_w662 ev_w74 ⟨rfl, ev_dn65⟩ (by decide) rfl) <|
   ev_a (ok_no) <|
   ev_a (ok_no) <|
   ev_a (ok_ald_n X hP (by decide +kernel : decode cX10_tryBatch 11 = .ok (.aload_n 0, 1)) rfl rfl) <|
   ev_a (ok_get X hP (ci := 15) (kf := 3) (T := TX10) (by decide +kernel : decode cX10_tryBatch 12 = .ok (.getfield 30, 3)) rfl ev_in15 (by decide) ev_w351 (Or.inl rfl) rfl) <|
   ev_a (ok_no) <|
   ev_a (ok_no) <|
   ev_a (ok_ald_n X hP (by decide +kernel : decode cX10_tryBatch 15 = .ok (.aload_n 0, 1)) rfl rfl) <| ev_a0) <|
  ev_b (
   ev_a (ok_get X hP (ci := 15) (kf := 1) (T := TX10) (by decide +kernel : decode cX10_tryBatch 16 = .ok (.getfield 19, 3)) rfl ev_in15 (by decide) ev_w349 (Or.inl rfl) rfl) <|
   ev_a (ok_no) <|
   ev_a (ok_no) <|
   ev_a (ok_ald_n X hP (by decide +kernel : decode cX10_tryBatch 19 = .ok (.aload_n 0, 1)) rfl rfl) <|
   ev_a (ok_get X hP (ci := 15) (kf := 12) (T := TX10) (by decide +kernel : decode cX10_tryBatch 20 = .ok (.getfield 103, 3)) rfl ev_in15 (by decide) ev_w360 (Or.inl rfl) rfl) <|
   ev_a (ok_no) <|
   ev_a (ok_no) <|
   ev_a (ok_psh_iconst X hP (by decide +kernel : decode cX10_tryBatch 23 = .ok (.iconst 1, 1)) rfl) <|
   ev_a (ok_iadd X hP (by decide +kernel : decode cX10_tryBatch 24 = .ok (.iadd, 1)) rfl) <|
   ev_a (ok_ald_n X hP (by decide +kernel : decode cX10_tryBatch 25 = .ok (.aload_n 0, 1)) rfl rfl) <|
   ev_a (ok_get X hP (ci := 15) (kf := 0) (T := TX10) (by decide +kernel : decode cX10_tryBatch 26 = .ok (.getfield 10, 3)) rfl ev_in15 (by decide) ev_w348 (Or.inl rfl) rfl) <|
   ev_a (ok_no) <|
   ev_a (ok_no) <|
   ev_a (ok_invV X hP hR hd2 hcf (ci := 12) ev_y71 rfl (by decide +kernel : decode cX10_tryBatch 29 = .ok (.invokevirtual 321, 3)) ev_w668 ev_w665 ev_w666 ev_w667 ev_w74 ⟨rfl, ev_dn71⟩ (by decide) rfl) <|
   ev_a (ok_no) <|
   ev_a (ok_no) <| ev_a0) <|
  ev_b (
   ev_a (ok_ald_n X hP (by decide +kernel : decode cX10_tryBatch 32 = .ok (.aload_n 0, 1)) rfl rfl) <|
   ev_a (ok_get X hP (ci := 15) (kf := 5) (T := TX10) (by decide +kernel : decode cX10_tryBatch 33 = .ok (.getfield 40, 3)) rfl ev_in15 (by decide) ev_w353 (Or.inl rfl) rfl) <|
   ev_a (ok_no) <|
   ev_a (ok_no) <|
   ev_a (ok_ald_n X hP (by decide +kernel : decode cX10_tryBatch 36 = .ok (.aload_n 0, 1)) rfl rfl) <|
   ev_a (ok_get X hP (ci := 15) (kf := 3) (T := TX10) (by decide +kernel : decode cX10_tryBatch 37 = .ok (.getfield 30, 3)) rfl ev_in15 (by decide) ev_w351 (Or.inl rfl) rfl) <|
   ev_a (ok_no) <|
   ev_a (ok_no) <|
   ev_a (ok_ald_n X hP (by decide +kernel : decode cX10_tryBatch 40 = .ok (.aload_n 0, 1)) rfl rfl) <|
   ev_a (ok_get X hP (ci := 15) (kf := 12) (T := TX10) (by decide +kernel : decode cX10_tryBatch 41 = .ok (.getfield 103, 3)) rfl ev_in15 (by decide) ev_w360 (Or.inl rfl) rfl) <|
   ev_a (ok_no) <|
   ev_a (ok_no) <|
   ev_a (ok_psh_iconst X hP (by decide +kernel : decode cX10_tryBatch 44 = .ok (.iconst 1, 1)) rfl) <|
   ev_a (ok_iadd X hP (by decide +kernel : decode cX10_tryBatch 45 = .ok (.iadd, 1)) rfl) <|
   ev_a (ok_invV X hP hR hd2 hcf (ci := 14) ev_y74 rfl (by decide +kernel : decode cX10_tryBatch 46 = .ok (.invokevirtual 212, 3)) ev_w452 ev_w449 ev_w450 ev_w451 ev_w75 ⟨rfl, ev_dn74⟩ (by decide) rfl) <|
   ev_a (ok_no) <| ev_a0) <|
  ev_b (
   ev_a (ok_no) <|
   ev_a (ok_return X hP hQ hfin rfl (by decide +kernel : decode cX10_tryBatch 49 = .ok (.return_, 1))) <| ev_a0) <|
  ev_b0
set_option maxRecDepth 100000 in
theorem ev_s35 {l : Launch} {d : Nat} {cf : Nat → List Value → ev_W → Option ev_R} {p : Program} {e : Env} {R : Room} {s : State} {m : MethodId} {args : Array Value} {below : List Frame} {meth : Method} {c : Code} {Q : State → Prop} {D : va_G} {G : Nat → ClassId} {ad : Nat → Nat} {A : Nat → Prop} {z wE nE : Nat} {P : Nat → List Value → List Value → ev_W → Nat → Prop} {α : Type} {r : α} {fin : Option Value → ev_W → Nat → Option α} (X : ev_X cX10_unsay 2 yX10_unsay.cls (some FieldType.int) p s m args meth c D G ad A z) (hP : ev_PP p l e R s m args below meth c Q 2 D G ad A z wE nE P) (hR : wE - z ≤ R.cells ∧ nE ≤ R.slots) (hd2 : d + 1 ≤ R.frames ∧ 64 * (d + 1) ≤ R.locals) (hR1 : 1 ≤ R.frames) (hR2 : 21 ≤ R.locals) (hcf : ev_cf l ev_ys d cf) {Qc : Array Value → State → Outcome → State → Prop} (hQ : Q = MQ below Qc args s (wE - z) nE A) (hfin : ∀ v w n, fin v w n = some r → w.length = wE ∧ n = nE ∧ ∀ H locs, ev_H D G ad A w H → va_S A s.heap H locs → ∀ t : State, t.heap = H → s.WarmedH t.vm → Qc args s (.returned (v.map (ev_v ad))) t) : ev_all2 (ev_ok P r) 0 (ev_o35 cf fin) :=
  ev_b (
   ev_a (ok_ild_n X hP (by decide +kernel : decode cX10_unsay 0 = .ok (.iload_n 1, 1)) rfl rfl) <|
   ev_a (ok_invS X hP hR hd2 hcf ev_y25 (by decide +kernel : decode cX10_unsay 1 = .ok (.invokestatic 81, 3)) ev_w789 ev_w787 ev_w788 ev_w71 ev_dn25 (by decide) rfl) <|
   ev_a (ok_no) <|
   ev_a (ok_no) <|
   ev_a (ok_ald_n X hP (by decide +kernel : decode cX10_unsay 4 = .ok (.aload_n 0, 1)) rfl rfl) <|
   ev_a (ok_invV X hP hR hd2 hcf (ci := 15) ev_y24 rfl (by decide +kernel : decode cX10_unsay 5 = .ok (.invokevirtual 92, 3)) ev_w862 ev_w859 ev_w861 ev_w34 ev_w71 ⟨rfl, ev_dn24⟩ (by decide) rfl) <|
   ev_a (ok_no) <|
   ev_a (ok_no) <|
   ev_a (ok_ald_n X hP (by decide +kernel : decode cX10_unsay 8 = .ok (.aload_n 0, 1)) rfl rfl) <|
   ev_a (ok_get X hP (ci := 15) (kf := 1) (T := TX10) (by decide +kernel : decode cX10_unsay 9 = .ok (.getfield 19, 3)) rfl ev_in15 (by decide) ev_w349 (Or.inl rfl) rfl) <|
   ev_a (ok_no) <|
   ev_a (ok_no) <|
   ev_a (ok_ild_n X hP (by decide +kernel : decode cX10_unsay 12 = .ok (.iload_n 1, 1)) rfl rfl) <|
   ev_a (ok_psh_iconst X hP (by decide +kernel : decode cX10_unsay 13 = .ok (.iconst 0, 1)) rfl) <|
   ev_a (ok_invV X hP hR hd2 hcf (ci := 5) ev_y19 rfl (by decide +kernel : decode cX10_unsay 14 = .ok (.invokevirtual 95, 3)) ev_w882 ev_w879 ev_w880 ev_w881 ev_w73 ⟨rfl, ev_dn19⟩ (by decide) rfl) <|
   ev_a (ok_no) <| ev_a0) <|
  ev_b (
   ev_a (ok_no) <|
   ev_a (ok_ireturn X hP hQ hfin rfl (by decide +kernel : decode cX10_unsay 17 = .ok (.ireturn, 1))) <| ev_a0) <|
  ev_b0
set_option maxRecDepth 100000 in
theorem ev_s36 {l : Launch} {d : Nat} {cf : Nat → List Value → ev_W → Option ev_R} {p : Program} {e : Env} {R : Room} {s : State} {m : MethodId} {args : Array Value} {below : List Frame} {meth : Method} {c : Code} {Q : State → Prop} {D : va_G} {G : Nat → ClassId} {ad : Nat → Nat} {A : Nat → Prop} {z wE nE : Nat} {P : Nat → List Value → List Value → ev_W → Nat → Prop} {α : Type} {r : α} {fin : Option Value → ev_W → Nat → Option α} (X : ev_X cX11_init 1 yX11_init.cls none p s m args meth c D G ad A z) (hP : ev_PP p l e R s m args below meth c Q 1 D G ad A z wE nE P) (hR : wE - z ≤ R.cells ∧ nE ≤ R.slots) (hd2 : d + 1 ≤ R.frames ∧ 64 * (d + 1) ≤ R.locals) (hR1 : 1 ≤ R.frames) (hR2 : 21 ≤ R.locals) (hcf : ev_cf l ev_ys d cf) {Qc : Array Value → State → Outcome → State → Prop} (hQ : Q = MQ below Qc args s (wE - z) nE A) (hfin : ∀ v w n, fin v w n = some r → w.length = wE ∧ n = nE ∧ ∀ H locs, ev_H D G ad A w H → va_S A s.heap H locs → ∀ t : State, t.heap = H → s.WarmedH t.vm → Qc args s (.returned (v.map (ev_v ad))) t) : ev_all2 (ev_ok P r) 0 (ev_o36 cf fin) :=
  ev_b (
   ev_a (ok_ald_n X hP (by decide +kernel : decode cX11_init 0 = .ok (.aload_n 0, 1)) rfl rfl) <|
   ev_a (ok_obj X hP hR1 hR2 (by decide +kernel : decode cX11_init 1 = .ok (.invokespecial 1, 3)) ev_w770 ev_w115 ev_w116 rfl) <|
   ev_a (ok_no) <|
   ev_a (ok_no) <|
   ev_a (ok_return X hP hQ hfin rfl (by decide +kernel : decode cX11_init 4 = .ok (.return_, 1))) <| ev_a0) <|
  ev_b0
set_option maxRecDepth 100000 in
theorem ev_s37 {l : Launch} {d : Nat} {cf : Nat → List Value → ev_W → Option ev_R} {p : Program} {e : Env} {R : Room} {s : State} {m : MethodId} {args : Array Value} {below : List Frame} {meth : Method} {c : Code} {Q : State → Prop} {D : va_G} {G : Nat → ClassId} {ad : Nat → Nat} {A : Nat → Prop} {z wE nE : Nat} {P : Nat → List Value → List Value → ev_W → Nat → Prop} {α : Type} {r : α} {fin : Option Value → ev_W → Nat → Option α} (X : ev_X cX12_holds 2 yX12_holds.cls (some FieldType.boolean) p s m args meth c D G ad A z) (hP : ev_PP p l e R s m args below meth c Q 2 D G ad A z wE nE P) (hR : wE - z ≤ R.cells ∧ nE ≤ R.slots) (hd2 : d + 1 ≤ R.frames ∧ 64 * (d + 1) ≤ R.locals) (hR1 : 1 ≤ R.frames) (hR2 : 21 ≤ R.locals) (hcf : ev_cf l ev_ys d cf) {Qc : Array Value → State → Outcome → State → Prop} (hQ : Q = MQ below Qc args s (wE - z) nE A) (hfin : ∀ v w n, fin v w n = some r → w.length = wE ∧ n = nE ∧ ∀ H locs, ev_H D G ad A w H → va_S A s.heap H locs → ∀ t : State, t.heap = H → s.WarmedH t.vm → Qc args s (.returned (v.map (ev_v ad))) t) : ev_all2 (ev_ok P r) 0 (ev_o37 cf fin) :=
  ev_b (
   ev_a (ok_ald_n X hP (by decide +kernel : decode cX12_holds 0 = .ok (.aload_n 0, 1)) rfl rfl) <|
   ev_a (ok_get X hP (ci := 17) (kf := 2) (T := TX12) (by decide +kernel : decode cX12_holds 1 = .ok (.getfield 15, 3)) rfl ev_in17 (by decide) ev_w1573 (Or.inl rfl) rfl) <|
   ev_a (ok_no) <|
   ev_a (ok_no) <|
   ev_a (ok_ild_n X hP (by decide +kernel : decode cX12_holds 4 = .ok (.iload_n 1, 1)) rfl rfl) <|
   ev_a (ok_icmp_gt X hP (by decide +kernel : decode cX12_holds 5 = .ok (.if_icmp .gt 15, 3)) (by decide) rfl) <|
   ev_a (ok_no) <|
   ev_a (ok_no) <|
   ev_a (ok_ild_n X hP (by decide +kernel : decode cX12_holds 8 = .ok (.iload_n 1, 1)) rfl rfl) <|
   ev_a (ok_ald_n X hP (by decide +kernel : decode cX12_holds 9 = .ok (.aload_n 0, 1)) rfl rfl) <|
   ev_a (ok_get X hP (ci := 17) (kf := 3) (T := TX12) (by decide +kernel : decode cX12_holds 10 = .ok (.getfield 9, 3)) rfl ev_in17 (by decide) ev_w1575 (Or.inl rfl) rfl) <|
   ev_a (ok_no) <|
   ev_a (ok_no) <|
   ev_a (ok_icmp_ge X hP (by decide +kernel : decode cX12_holds 13 = .ok (.if_icmp .ge 7, 3)) (by decide) rfl) <|
   ev_a (ok_no) <|
   ev_a (ok_no) <| ev_a0) <|
  ev_b (
   ev_a (ok_psh_iconst X hP (by decide +kernel : decode cX12_holds 16 = .ok (.iconst 1, 1)) rfl) <|
   ev_a (ok_jmp X hP (by decide +kernel : decode cX12_holds 17 = .ok (.goto 4, 3)) (by decide)) <|
   ev_a (ok_no) <|
   ev_a (ok_no) <|
   ev_a (ok_psh_iconst X hP (by decide +kernel : decode cX12_holds 20 = .ok (.iconst 0, 1)) rfl) <|
   ev_a (ok_zreturn X hP hQ hfin rfl (by decide +kernel : decode cX12_holds 21 = .ok (.ireturn, 1))) <| ev_a0) <|
  ev_b0
set_option maxRecDepth 100000 in
theorem ev_s38 {l : Launch} {d : Nat} {cf : Nat → List Value → ev_W → Option ev_R} {p : Program} {e : Env} {R : Room} {s : State} {m : MethodId} {args : Array Value} {below : List Frame} {meth : Method} {c : Code} {Q : State → Prop} {D : va_G} {G : Nat → ClassId} {ad : Nat → Nat} {A : Nat → Prop} {z wE nE : Nat} {P : Nat → List Value → List Value → ev_W → Nat → Prop} {α : Type} {r : α} {fin : Option Value → ev_W → Nat → Option α} (X : ev_X cX12_init 1 yX12_init.cls none p s m args meth c D G ad A z) (hP : ev_PP p l e R s m args below meth c Q 1 D G ad A z wE nE P) (hR : wE - z ≤ R.cells ∧ nE ≤ R.slots) (hd2 : d + 1 ≤ R.frames ∧ 64 * (d + 1) ≤ R.locals) (hR1 : 1 ≤ R.frames) (hR2 : 21 ≤ R.locals) (hcf : ev_cf l ev_ys d cf) {Qc : Array Value → State → Outcome → State → Prop} (hQ : Q = MQ below Qc args s (wE - z) nE A) (hfin : ∀ v w n, fin v w n = some r → w.length = wE ∧ n = nE ∧ ∀ H locs, ev_H D G ad A w H → va_S A s.heap H locs → ∀ t : State, t.heap = H → s.WarmedH t.vm → Qc args s (.returned (v.map (ev_v ad))) t) : ev_all2 (ev_ok P r) 0 (ev_o38 cf fin) :=
  ev_b (
   ev_a (ok_ald_n X hP (by decide +kernel : decode cX12_init 0 = .ok (.aload_n 0, 1)) rfl rfl) <|
   ev_a (ok_obj X hP hR1 hR2 (by decide +kernel : decode cX12_init 1 = .ok (.invokespecial 3, 3)) ev_w1570 ev_w115 ev_w116 rfl) <|
   ev_a (ok_no) <|
   ev_a (ok_no) <|
   ev_a (ok_ald_n X hP (by decide +kernel : decode cX12_init 4 = .ok (.aload_n 0, 1)) rfl rfl) <|
   ev_a (ok_psh_sipush X hP (by decide +kernel : decode cX12_init 5 = .ok (.sipush 1000, 3)) rfl) <|
   ev_a (ok_no) <|
   ev_a (ok_no) <|
   ev_a (ok_put X hP (ci := 17) (kf := 3) (T := TX12) tyX12 (by decide +kernel : decode cX12_init 8 = .ok (.putfield 9, 3)) rfl ev_in17 tyX12_ok nmX12 (by decide) ev_w1575 (Or.inl rfl) rfl rfl rfl) <|
   ev_a (ok_no) <|
   ev_a (ok_no) <|
   ev_a (ok_return X hP hQ hfin rfl (by decide +kernel : decode cX12_init 11 = .ok (.return_, 1))) <| ev_a0) <|
  ev_b0
set_option maxRecDepth 100000 in
theorem ev_s39 {l : Launch} {d : Nat} {cf : Nat → List Value → ev_W → Option ev_R} {p : Program} {e : Env} {R : Room} {s : State} {m : MethodId} {args : Array Value} {below : List Frame} {meth : Method} {c : Code} {Q : State → Prop} {D : va_G} {G : Nat → ClassId} {ad : Nat → Nat} {A : Nat → Prop} {z wE nE : Nat} {P : Nat → List Value → List Value → ev_W → Nat → Prop} {α : Type} {r : α} {fin : Option Value → ev_W → Nat → Option α} (X : ev_X cX13_broken 10 yX13_broken.cls (some FieldType.int) p s m args meth c D G ad A z) (hP : ev_PP p l e R s m args below meth c Q 10 D G ad A z wE nE P) (hR : wE - z ≤ R.cells ∧ nE ≤ R.slots) (hd2 : d + 1 ≤ R.frames ∧ 64 * (d + 1) ≤ R.locals) (hR1 : 1 ≤ R.frames) (hR2 : 21 ≤ R.locals) (hcf : ev_cf l ev_ys d cf) {Qc : Array Value → State → Outcome → State → Prop} (hQ : Q = MQ below Qc args s (wE - z) nE A) (hfin : ∀ v w n, fin v w n = some r → w.length = wE ∧ n = nE ∧ ∀ H locs, ev_H D G ad A w H → va_S A s.heap H locs → ∀ t : State, t.heap = H → s.WarmedH t.vm → Qc args s (.returned (v.map (ev_v ad))) t) : ev_all2 (ev_ok P r) 0 (ev_o39 cf fin) :=
  ev_b (
   ev_a (ok_ald_n X hP (by decide +kernel : decode cX13_broken 0 = .ok (.aload_n 0, 1)) rfl rfl) <|
   ev_a (ok_ald_n X hP (by decide +kernel : decode cX13_broken 1 = .ok (.aload_n 1, 1)) rfl rfl) <|
   ev_a (ok_ild_n X hP (by decide +kernel : decode cX13_broken 2 = .ok (.iload_n 2, 1)) rfl rfl) <|
   ev_a (ok_psh_iconst X hP (by decide +kernel : decode cX13_broken 3 = .ok (.iconst 0, 1)) rfl) <|
   ev_a (ok_invV X hP hR hd2 hcf (ci := 18) ev_y53 rfl (by decide +kernel : decode cX13_broken 4 = .ok (.invokevirtual 143, 3)) ev_w1610 ev_w1607 ev_w1609 ev_w45 ev_w82 ⟨rfl, ev_dn53⟩ (by decide) rfl) <|
   ev_a (ok_no) <|
   ev_a (ok_no) <|
   ev_a (ok_ast_n X hP (by decide +kernel : decode cX13_broken 7 = .ok (.astore_n 3, 1)) rfl (by decide) rfl) <|
   ev_a (ok_psh_iconst X hP (by decide +kernel : decode cX13_broken 8 = .ok (.iconst 0, 1)) rfl) <|
   ev_a (ok_ist X hP (by decide +kernel : decode cX13_broken 9 = .ok (.istore 4, 2)) (by decide) rfl) <|
   ev_a (ok_no) <|
   ev_a (ok_psh_iconst X hP (by decide +kernel : decode cX13_broken 11 = .ok (.iconst 0, 1)) rfl) <|
   ev_a (ok_ist X hP (by decide +kernel : decode cX13_broken 12 = .ok (.istore 5, 2)) (by decide) rfl) <|
   ev_a (ok_no) <|
   ev_a (ok_ild X hP (by decide +kernel : decode cX13_broken 14 = .ok (.iload 5, 2)) rfl) <|
   ev_a (ok_no) <| ev_a0) <|
  ev_b (
   ev_a (ok_psh_bipush X hP (by decide +kernel : decode cX13_broken 16 = .ok (.bipush 6, 2)) rfl) <|
   ev_a (ok_no) <|
   ev_a (ok_icmp_ge X hP (by decide +kernel : decode cX13_broken 18 = .ok (.if_icmp .ge 125, 3)) (by decide) rfl) <|
   ev_a (ok_no) <|
   ev_a (ok_no) <|
   ev_a (ok_psh_iconst X hP (by decide +kernel : decode cX13_broken 21 = .ok (.iconst 0, 1)) rfl) <|
   ev_a (ok_ist X hP (by decide +kernel : decode cX13_broken 22 = .ok (.istore 6, 2)) (by decide) rfl) <|
   ev_a (ok_no) <|
   ev_a (ok_psh_iconst X hP (by decide +kernel : decode cX13_broken 24 = .ok (.iconst 0, 1)) rfl) <|
   ev_a (ok_ist X hP (by decide +kernel : decode cX13_broken 25 = .ok (.istore 7, 2)) (by decide) rfl) <|
   ev_a (ok_no) <|
   ev_a (ok_ild X hP (by decide +kernel : decode cX13_broken 27 = .ok (.iload 7, 2)) rfl) <|
   ev_a (ok_no) <|
   ev_a (ok_psh_bipush X hP (by decide +kernel : decode cX13_broken 29 = .ok (.bipush 6, 2)) rfl) <|
   ev_a (ok_no) <|
   ev_a (ok_icmp_ge X hP (by decide +kernel : decode cX13_broken 31 = .ok (.if_icmp .ge 91, 3)) (by decide) rfl) <| ev_a0) <|
  ev_b (
   ev_a (ok_no) <|
   ev_a (ok_no) <|
   ev_a (ok_psh_iconst X hP (by decide +kernel : decode cX13_broken 34 = .ok (.iconst 0, 1)) rfl) <|
   ev_a (ok_ist X hP (by decide +kernel : decode cX13_broken 35 = .ok (.istore 8, 2)) (by decide) rfl) <|
   ev_a (ok_no) <|
   ev_a (ok_psh_iconst X hP (by decide +kernel : decode cX13_broken 37 = .ok (.iconst 0, 1)) rfl) <|
   ev_a (ok_ist X hP (by decide +kernel : decode cX13_broken 38 = .ok (.istore 9, 2)) (by decide) rfl) <|
   ev_a (ok_no) <|
   ev_a (ok_ild X hP (by decide +kernel : decode cX13_broken 40 = .ok (.iload 9, 2)) rfl) <|
   ev_a (ok_no) <|
   ev_a (ok_psh_bipush X hP (by decide +kernel : decode cX13_broken 42 = .ok (.bipush 6, 2)) rfl) <|
   ev_a (ok_no) <|
   ev_a (ok_icmp_ge X hP (by decide +kernel : decode cX13_broken 44 = .ok (.if_icmp .ge 56, 3)) (by decide) rfl) <|
   ev_a (ok_no) <|
   ev_a (ok_no) <|
   ev_a (ok_ald_n X hP (by decide +kernel : decode cX13_broken 47 = .ok (.aload_n 0, 1)) rfl rfl) <| ev_a0) <|
  ev_b (
   ev_a (ok_get X hP (ci := 18) (kf := 8) (T := TX13) (by decide +kernel : decode cX13_broken 48 = .ok (.getfield 147, 3)) rfl ev_in18 (by decide) ev_w1391 (Or.inl rfl) rfl) <|
   ev_a (ok_no) <|
   ev_a (ok_no) <|
   ev_a (ok_ild X hP (by decide +kernel : decode cX13_broken 51 = .ok (.iload 7, 2)) rfl) <|
   ev_a (ok_no) <|
   ev_a (ok_ishr X hP (by decide +kernel : decode cX13_broken 53 = .ok (.ishr, 1)) rfl) <|
   ev_a (ok_psh_iconst X hP (by decide +kernel : decode cX13_broken 54 = .ok (.iconst 1, 1)) rfl) <|
   ev_a (ok_iand X hP (by decide +kernel : decode cX13_broken 55 = .ok (.iand, 1)) rfl) <|
   ev_a (ok_psh_iconst X hP (by decide +kernel : decode cX13_broken 56 = .ok (.iconst 1, 1)) rfl) <|
   ev_a (ok_icmp_ne X hP (by decide +kernel : decode cX13_broken 57 = .ok (.if_icmp .ne 43, 3)) (by decide) rfl) <|
   ev_a (ok_no) <|
   ev_a (ok_no) <|
   ev_a (ok_ild X hP (by decide +kernel : decode cX13_broken 60 = .ok (.iload 8, 2)) rfl) <|
   ev_a (ok_no) <|
   ev_a (ok_ald_n X hP (by decide +kernel : decode cX13_broken 62 = .ok (.aload_n 3, 1)) rfl rfl) <|
   ev_a (ok_psh_bipush X hP (by decide +kernel : decode cX13_broken 63 = .ok (.bipush 36, 2)) rfl) <| ev_a0) <|
  ev_b (
   ev_a (ok_no) <|
   ev_a (ok_ild X hP (by decide +kernel : decode cX13_broken 65 = .ok (.iload 5, 2)) rfl) <|
   ev_a (ok_no) <|
   ev_a (ok_imul X hP (by decide +kernel : decode cX13_broken 67 = .ok (.imul, 1)) rfl) <|
   ev_a (ok_psh_bipush X hP (by decide +kernel : decode cX13_broken 68 = .ok (.bipush 6, 2)) rfl) <|
   ev_a (ok_no) <|
   ev_a (ok_ald_n X hP (by decide +kernel : decode cX13_broken 70 = .ok (.aload_n 0, 1)) rfl rfl) <|
   ev_a (ok_get X hP (ci := 18) (kf := 1) (T := TX13) (by decide +kernel : decode cX13_broken 71 = .ok (.getfield 7, 3)) rfl ev_in18 (by decide) ev_w1384 (Or.inl rfl) rfl) <|
   ev_a (ok_no) <|
   ev_a (ok_no) <|
   ev_a (ok_ild X hP (by decide +kernel : decode cX13_broken 74 = .ok (.iload 7, 2)) rfl) <|
   ev_a (ok_no) <|
   ev_a (ok_ialoads X hP (by decide +kernel : decode cX13_broken 76 = .ok (.iaload, 1)) rfl) <|
   ev_a (ok_imul X hP (by decide +kernel : decode cX13_broken 77 = .ok (.imul, 1)) rfl) <|
   ev_a (ok_iadd X hP (by decide +kernel : decode cX13_broken 78 = .ok (.iadd, 1)) rfl) <|
   ev_a (ok_ild X hP (by decide +kernel : decode cX13_broken 79 = .ok (.iload 9, 2)) rfl) <| ev_a0) <|
  ev_b (
   ev_a (ok_no) <|
   ev_a (ok_iadd X hP (by decide +kernel : decode cX13_broken 81 = .ok (.iadd, 1)) rfl) <|
   ev_a (ok_baloads X hP (by decide +kernel : decode cX13_broken 82 = .ok (.baload, 1)) rfl) <|
   ev_a (ok_if_eq X hP (by decide +kernel : decode cX13_broken 83 = .ok (.ifCond .eq 7, 3)) (by decide) rfl) <|
   ev_a (ok_no) <|
   ev_a (ok_no) <|
   ev_a (ok_psh_iconst X hP (by decide +kernel : decode cX13_broken 86 = .ok (.iconst 1, 1)) rfl) <|
   ev_a (ok_jmp X hP (by decide +kernel : decode cX13_broken 87 = .ok (.goto 4, 3)) (by decide)) <|
   ev_a (ok_no) <|
   ev_a (ok_no) <|
   ev_a (ok_psh_iconst X hP (by decide +kernel : decode cX13_broken 90 = .ok (.iconst 0, 1)) rfl) <|
   ev_a (ok_iadd X hP (by decide +kernel : decode cX13_broken 91 = .ok (.iadd, 1)) rfl) <|
   ev_a (ok_ist X hP (by decide +kernel : decode cX13_broken 92 = .ok (.istore 8, 2)) (by decide) rfl) <|
   ev_a (ok_no) <|
   ev_a (ok_inc X hP (by decide +kernel : decode cX13_broken 94 = .ok (.iinc 9 1, 3)) (by decide) rfl) <|
   ev_a (ok_no) <| ev_a0) <|
  ev_b (
   ev_a (ok_no) <|
   ev_a (ok_jmp X hP (by decide +kernel : decode cX13_broken 97 = .ok (.goto (-57), 3)) (by decide)) <|
   ev_a (ok_no) <|
   ev_a (ok_no) <|
   ev_a (ok_ild X hP (by decide +kernel : decode cX13_broken 100 = .ok (.iload 6, 2)) rfl) <|
   ev_a (ok_no) <|
   ev_a (ok_ild X hP (by decide +kernel : decode cX13_broken 102 = .ok (.iload 8, 2)) rfl) <|
   ev_a (ok_no) <|
   ev_a (ok_psh_iconst X hP (by decide +kernel : decode cX13_broken 104 = .ok (.iconst 1, 1)) rfl) <|
   ev_a (ok_icmp_le X hP (by decide +kernel : decode cX13_broken 105 = .ok (.if_icmp .le 7, 3)) (by decide) rfl) <|
   ev_a (ok_no) <|
   ev_a (ok_no) <|
   ev_a (ok_psh_iconst X hP (by decide +kernel : decode cX13_broken 108 = .ok (.iconst 1, 1)) rfl) <|
   ev_a (ok_jmp X hP (by decide +kernel : decode cX13_broken 109 = .ok (.goto 4, 3)) (by decide)) <|
   ev_a (ok_no) <|
   ev_a (ok_no) <| ev_a0) <|
  ev_b (
   ev_a (ok_psh_iconst X hP (by decide +kernel : decode cX13_broken 112 = .ok (.iconst 0, 1)) rfl) <|
   ev_a (ok_ior X hP (by decide +kernel : decode cX13_broken 113 = .ok (.ior, 1)) rfl) <|
   ev_a (ok_ist X hP (by decide +kernel : decode cX13_broken 114 = .ok (.istore 6, 2)) (by decide) rfl) <|
   ev_a (ok_no) <|
   ev_a (ok_inc X hP (by decide +kernel : decode cX13_broken 116 = .ok (.iinc 7 1, 3)) (by decide) rfl) <|
   ev_a (ok_no) <|
   ev_a (ok_no) <|
   ev_a (ok_jmp X hP (by decide +kernel : decode cX13_broken 119 = .ok (.goto (-92), 3)) (by decide)) <|
   ev_a (ok_no) <|
   ev_a (ok_no) <|
   ev_a (ok_ild X hP (by decide +kernel : decode cX13_broken 122 = .ok (.iload 4, 2)) rfl) <|
   ev_a (ok_no) <|
   ev_a (ok_ild X hP (by decide +kernel : decode cX13_broken 124 = .ok (.iload 6, 2)) rfl) <|
   ev_a (ok_no) <|
   ev_a (ok_if_eq X hP (by decide +kernel : decode cX13_broken 126 = .ok (.ifCond .eq 7, 3)) (by decide) rfl) <|
   ev_a (ok_no) <| ev_a0) <|
  ev_b (
   ev_a (ok_no) <|
   ev_a (ok_psh_iconst X hP (by decide +kernel : decode cX13_broken 129 = .ok (.iconst 1, 1)) rfl) <|
   ev_a (ok_jmp X hP (by decide +kernel : decode cX13_broken 130 = .ok (.goto 4, 3)) (by decide)) <|
   ev_a (ok_no) <|
   ev_a (ok_no) <|
   ev_a (ok_psh_iconst X hP (by decide +kernel : decode cX13_broken 133 = .ok (.iconst 0, 1)) rfl) <|
   ev_a (ok_iadd X hP (by decide +kernel : decode cX13_broken 134 = .ok (.iadd, 1)) rfl) <|
   ev_a (ok_ist X hP (by decide +kernel : decode cX13_broken 135 = .ok (.istore 4, 2)) (by decide) rfl) <|
   ev_a (ok_no) <|
   ev_a (ok_inc X hP (by decide +kernel : decode cX13_broken 137 = .ok (.iinc 5 1, 3)) (by decide) rfl) <|
   ev_a (ok_no) <|
   ev_a (ok_no) <|
   ev_a (ok_jmp X hP (by decide +kernel : decode cX13_broken 140 = .ok (.goto (-126), 3)) (by decide)) <|
   ev_a (ok_no) <|
   ev_a (ok_no) <|
   ev_a (ok_ild X hP (by decide +kernel : decode cX13_broken 143 = .ok (.iload 4, 2)) rfl) <| ev_a0) <|
  ev_b (
   ev_a (ok_no) <|
   ev_a (ok_ireturn X hP hQ hfin rfl (by decide +kernel : decode cX13_broken 145 = .ok (.ireturn, 1))) <| ev_a0) <|
  ev_b0
set_option maxRecDepth 100000 in
theorem ev_s40 {l : Launch} {d : Nat} {cf : Nat → List Value → ev_W → Option ev_R} {p : Program} {e : Env} {R : Room} {s : State} {m : MethodId} {args : Array Value} {below : List Frame} {meth : Method} {c : Code} {Q : State → Prop} {D : va_G} {G : Nat → ClassId} {ad : Nat → Nat} {A : Nat → Prop} {z wE nE : Nat} {P : Nat → List Value → List Value → ev_W → Nat → Prop} {α : Type} {r : α} {fin : Option Value → ev_W → Nat → Option α} (X : ev_X cX13_broken_ 1 yX13_broken_.cls (some FieldType.int) p s m args meth c D G ad A z) (hP : ev_PP p l e R s m args below meth c Q 1 D G ad A z wE nE P) (hR : wE - z ≤ R.cells ∧ nE ≤ R.slots) (hd2 : d + 1 ≤ R.frames ∧ 64 * (d + 1) ≤ R.locals) (hR1 : 1 ≤ R.frames) (hR2 : 21 ≤ R.locals) (hcf : ev_cf l ev_ys d cf) {Qc : Array Value → State → Outcome → State → Prop} (hQ : Q = MQ below Qc args s (wE - z) nE A) (hfin : ∀ v w n, fin v w n = some r → w.length = wE ∧ n = nE ∧ ∀ H locs, ev_H D G ad A w H → va_S A s.heap H locs → ∀ t : State, t.heap = H → s.WarmedH t.vm → Qc args s (.returned (v.map (ev_v ad))) t) : ev_all2 (ev_ok P r) 0 (ev_o40 cf fin) :=
  ev_b (
   ev_a (ok_ald_n X hP (by decide +kernel : decode cX13_broken_ 0 = .ok (.aload_n 0, 1)) rfl rfl) <|
   ev_a (ok_psh_iconst X hP (by decide +kernel : decode cX13_broken_ 1 = .ok (.iconst 0, 1)) rfl) <|
   ev_a (ok_put X hP (ci := 18) (kf := 0) (T := TX13) tyX13 (by decide +kernel : decode cX13_broken_ 2 = .ok (.putfield 33, 3)) rfl ev_in18 tyX13_ok nmX13 (by decide) ev_w1383 (Or.inl rfl) rfl rfl rfl) <|
   ev_a (ok_no) <|
   ev_a (ok_no) <|
   ev_a (ok_ald_n X hP (by decide +kernel : decode cX13_broken_ 5 = .ok (.aload_n 0, 1)) rfl rfl) <|
   ev_a (ok_ald_n X hP (by decide +kernel : decode cX13_broken_ 6 = .ok (.aload_n 0, 1)) rfl rfl) <|
   ev_a (ok_invV X hP hR hd2 hcf (ci := 18) ev_y42 rfl (by decide +kernel : decode cX13_broken_ 7 = .ok (.invokevirtual 117, 3)) ev_w1518 ev_w1515 ev_w1517 ev_w41 ev_w82 ⟨rfl, ev_dn42⟩ (by decide) rfl) <|
   ev_a (ok_no) <|
   ev_a (ok_no) <|
   ev_a (ok_ald_n X hP (by decide +kernel : decode cX13_broken_ 10 = .ok (.aload_n 0, 1)) rfl rfl) <|
   ev_a (ok_get X hP (ci := 18) (kf := 2) (T := TX13) (by decide +kernel : decode cX13_broken_ 11 = .ok (.getfield 74, 3)) rfl ev_in18 (by decide) ev_w1385 (Or.inl rfl) rfl) <|
   ev_a (ok_no) <|
   ev_a (ok_no) <|
   ev_a (ok_psh_iconst X hP (by decide +kernel : decode cX13_broken_ 14 = .ok (.iconst 1, 1)) rfl) <|
   ev_a (ok_iadd X hP (by decide +kernel : decode cX13_broken_ 15 = .ok (.iadd, 1)) rfl) <| ev_a0) <|
  ev_b (
   ev_a (ok_invV X hP hR hd2 hcf (ci := 18) ev_y39 rfl (by decide +kernel : decode cX13_broken_ 16 = .ok (.invokevirtual 121, 3)) ev_w1606 ev_w1603 ev_w1605 ev_w44 ev_w82 ⟨rfl, ev_dn39⟩ (by decide) rfl) <|
   ev_a (ok_no) <|
   ev_a (ok_no) <|
   ev_a (ok_ireturn X hP hQ hfin rfl (by decide +kernel : decode cX13_broken_ 19 = .ok (.ireturn, 1))) <| ev_a0) <|
  ev_b0
set_option maxRecDepth 100000 in
theorem ev_s41 {l : Launch} {d : Nat} {cf : Nat → List Value → ev_W → Option ev_R} {p : Program} {e : Env} {R : Room} {s : State} {m : MethodId} {args : Array Value} {below : List Frame} {meth : Method} {c : Code} {Q : State → Prop} {D : va_G} {G : Nat → ClassId} {ad : Nat → Nat} {A : Nat → Prop} {z wE nE : Nat} {P : Nat → List Value → List Value → ev_W → Nat → Prop} {α : Type} {r : α} {fin : Option Value → ev_W → Nat → Option α} (X : ev_X cX13_commit 4 yX13_commit.cls (some FieldType.int) p s m args meth c D G ad A z) (hP : ev_PP p l e R s m args below meth c Q 4 D G ad A z wE nE P) (hR : wE - z ≤ R.cells ∧ nE ≤ R.slots) (hd2 : d + 1 ≤ R.frames ∧ 64 * (d + 1) ≤ R.locals) (hR1 : 1 ≤ R.frames) (hR2 : 21 ≤ R.locals) (hcf : ev_cf l ev_ys d cf) {Qc : Array Value → State → Outcome → State → Prop} (hQ : Q = MQ below Qc args s (wE - z) nE A) (hfin : ∀ v w n, fin v w n = some r → w.length = wE ∧ n = nE ∧ ∀ H locs, ev_H D G ad A w H → va_S A s.heap H locs → ∀ t : State, t.heap = H → s.WarmedH t.vm → Qc args s (.returned (v.map (ev_v ad))) t) : ev_all2 (ev_ok P r) 0 (ev_o41 cf fin) :=
  ev_b (
   ev_a (ok_ald_n X hP (by decide +kernel : decode cX13_commit 0 = .ok (.aload_n 0, 1)) rfl rfl) <|
   ev_a (ok_psh_iconst X hP (by decide +kernel : decode cX13_commit 1 = .ok (.iconst 0, 1)) rfl) <|
   ev_a (ok_put X hP (ci := 18) (kf := 0) (T := TX13) tyX13 (by decide +kernel : decode cX13_commit 2 = .ok (.putfield 33, 3)) rfl ev_in18 tyX13_ok nmX13 (by decide) ev_w1383 (Or.inl rfl) rfl rfl rfl) <|
   ev_a (ok_no) <|
   ev_a (ok_no) <|
   ev_a (ok_ald_n X hP (by decide +kernel : decode cX13_commit 5 = .ok (.aload_n 0, 1)) rfl rfl) <|
   ev_a (ok_invV X hP hR hd2 hcf (ci := 18) ev_y42 rfl (by decide +kernel : decode cX13_commit 6 = .ok (.invokevirtual 117, 3)) ev_w1518 ev_w1515 ev_w1517 ev_w41 ev_w82 ⟨rfl, ev_dn42⟩ (by decide) rfl) <|
   ev_a (ok_no) <|
   ev_a (ok_no) <|
   ev_a (ok_ast_n X hP (by decide +kernel : decode cX13_commit 9 = .ok (.astore_n 1, 1)) rfl (by decide) rfl) <|
   ev_a (ok_ald_n X hP (by decide +kernel : decode cX13_commit 10 = .ok (.aload_n 0, 1)) rfl rfl) <|
   ev_a (ok_get X hP (ci := 18) (kf := 2) (T := TX13) (by decide +kernel : decode cX13_commit 11 = .ok (.getfield 74, 3)) rfl ev_in18 (by decide) ev_w1385 (Or.inl rfl) rfl) <|
   ev_a (ok_no) <|
   ev_a (ok_no) <|
   ev_a (ok_psh_bipush X hP (by decide +kernel : decode cX13_commit 14 = .ok (.bipush 50, 2)) rfl) <|
   ev_a (ok_no) <| ev_a0) <|
  ev_b (
   ev_a (ok_icmp_eq X hP (by decide +kernel : decode cX13_commit 16 = .ok (.if_icmp .eq 26, 3)) (by decide) rfl) <|
   ev_a (ok_no) <|
   ev_a (ok_no) <|
   ev_a (ok_ald_n X hP (by decide +kernel : decode cX13_commit 19 = .ok (.aload_n 1, 1)) rfl rfl) <|
   ev_a (ok_invV X hP hR hd2 hcf (ci := 4) ev_y12 rfl (by decide +kernel : decode cX13_commit 20 = .ok (.invokevirtual 63, 3)) ev_w1444 ev_w1441 ev_w1442 ev_w1443 ev_w85 ⟨rfl, ev_dn12⟩ (by decide) rfl) <|
   ev_a (ok_no) <|
   ev_a (ok_no) <|
   ev_a (ok_psh_bipush X hP (by decide +kernel : decode cX13_commit 23 = .ok (.bipush 60, 2)) rfl) <|
   ev_a (ok_no) <|
   ev_a (ok_icmp_gt X hP (by decide +kernel : decode cX13_commit 25 = .ok (.if_icmp .gt 17, 3)) (by decide) rfl) <|
   ev_a (ok_no) <|
   ev_a (ok_no) <|
   ev_a (ok_ald_n X hP (by decide +kernel : decode cX13_commit 28 = .ok (.aload_n 0, 1)) rfl rfl) <|
   ev_a (ok_ald_n X hP (by decide +kernel : decode cX13_commit 29 = .ok (.aload_n 1, 1)) rfl rfl) <|
   ev_a (ok_ald_n X hP (by decide +kernel : decode cX13_commit 30 = .ok (.aload_n 0, 1)) rfl rfl) <|
   ev_a (ok_get X hP (ci := 18) (kf := 2) (T := TX13) (by decide +kernel : decode cX13_commit 31 = .ok (.getfield 74, 3)) rfl ev_in18 (by decide) ev_w1385 (Or.inl rfl) rfl) <| ev_a0) <|
  ev_b (
   ev_a (ok_no) <|
   ev_a (ok_no) <|
   ev_a (ok_psh_iconst X hP (by decide +kernel : decode cX13_commit 34 = .ok (.iconst 1, 1)) rfl) <|
   ev_a (ok_iadd X hP (by decide +kernel : decode cX13_commit 35 = .ok (.iadd, 1)) rfl) <|
   ev_a (ok_invV X hP hR hd2 hcf (ci := 18) ev_y39 rfl (by decide +kernel : decode cX13_commit 36 = .ok (.invokevirtual 121, 3)) ev_w1606 ev_w1603 ev_w1605 ev_w44 ev_w82 ⟨rfl, ev_dn39⟩ (by decide) rfl) <|
   ev_a (ok_no) <|
   ev_a (ok_no) <|
   ev_a (ok_if_le X hP (by decide +kernel : decode cX13_commit 39 = .ok (.ifCond .le 9, 3)) (by decide) rfl) <|
   ev_a (ok_no) <|
   ev_a (ok_no) <|
   ev_a (ok_ald_n X hP (by decide +kernel : decode cX13_commit 42 = .ok (.aload_n 0, 1)) rfl rfl) <|
   ev_a (ok_psh_iconst X hP (by decide +kernel : decode cX13_commit 43 = .ok (.iconst 1, 1)) rfl) <|
   ev_a (ok_no) <|
   ev_a (ok_no) <|
   ev_a (ok_no) <|
   ev_a (ok_ireturn X hP hQ hfin rfl (by decide +kernel : decode cX13_commit 47 = .ok (.ireturn, 1))) <| ev_a0) <|
  ev_b (
   ev_a (ok_ald_n X hP (by decide +kernel : decode cX13_commit 48 = .ok (.aload_n 0, 1)) rfl rfl) <|
   ev_a (ok_get X hP (ci := 18) (kf := 3) (T := TX13) (by decide +kernel : decode cX13_commit 49 = .ok (.getfield 16, 3)) rfl ev_in18 (by decide) ev_w1386 (Or.inl rfl) rfl) <|
   ev_a (ok_no) <|
   ev_a (ok_no) <|
   ev_a (ok_invV X hP hR hd2 hcf (ci := 4) ev_y7 rfl (by decide +kernel : decode cX13_commit 52 = .ok (.invokevirtual 71, 3)) ev_w1510 ev_w1507 ev_w1508 ev_w1509 ev_w85 ⟨rfl, ev_dn7⟩ (by decide) rfl) <|
   ev_a (ok_no) <|
   ev_a (ok_no) <|
   ev_a (ok_ald_n X hP (by decide +kernel : decode cX13_commit 55 = .ok (.aload_n 1, 1)) rfl rfl) <|
   ev_a (ok_invV X hP hR hd2 hcf (ci := 4) ev_y11 rfl (by decide +kernel : decode cX13_commit 56 = .ok (.invokevirtual 77, 3)) ev_w1522 ev_w1519 ev_w1520 ev_w1521 ev_w85 ⟨rfl, ev_dn11⟩ (by decide) rfl) <|
   ev_a (ok_no) <|
   ev_a (ok_no) <|
   ev_a (ok_ast_n X hP (by decide +kernel : decode cX13_commit 59 = .ok (.astore_n 2, 1)) rfl (by decide) rfl) <|
   ev_a (ok_ald_n X hP (by decide +kernel : decode cX13_commit 60 = .ok (.aload_n 2, 1)) rfl rfl) <|
   ev_a (ok_invF X hP hR hd2 hcf (ci := 3) (x := ⟨"java/util/Iterator", "hasNext", "()Z"⟩) ev_y2 rfl (by decide +kernel : decode cX13_commit 61 = .ok (.invokeinterface 81 1, 5)) ev_w1551 ev_w1543 ev_w1547 ev_w1549 ev_w98 (by decide) (by decide +kernel) (by decide) rfl) <|
   ev_a (ok_no) <|
   ev_a (ok_no) <| ev_a0) <|
  ev_b (
   ev_a (ok_no) <|
   ev_a (ok_no) <|
   ev_a (ok_if_eq X hP (by decide +kernel : decode cX13_commit 66 = .ok (.ifCond .eq 25, 3)) (by decide) rfl) <|
   ev_a (ok_no) <|
   ev_a (ok_no) <|
   ev_a (ok_ald_n X hP (by decide +kernel : decode cX13_commit 69 = .ok (.aload_n 2, 1)) rfl rfl) <|
   ev_a (ok_invF X hP hR hd2 hcf (ci := 3) (x := ⟨"java/util/Iterator", "next", "()Ljava/lang/Object;"⟩) ev_y4 rfl (by decide +kernel : decode cX13_commit 70 = .ok (.invokeinterface 87 1, 5)) ev_w1560 ev_w1553 ev_w1556 ev_w1558 ev_w98 (by decide) (by decide +kernel) (by decide) rfl) <|
   ev_a (ok_no) <|
   ev_a (ok_no) <|
   ev_a (ok_no) <|
   ev_a (ok_no) <|
   ev_a (ok_castS X hP (ci := 17) (by decide +kernel : decode cX13_commit 75 = .ok (.checkcast 91, 3)) rfl ev_w1565 rfl) <|
   ev_a (ok_no) <|
   ev_a (ok_no) <|
   ev_a (ok_ast_n X hP (by decide +kernel : decode cX13_commit 78 = .ok (.astore_n 3, 1)) rfl (by decide) rfl) <|
   ev_a (ok_ald_n X hP (by decide +kernel : decode cX13_commit 79 = .ok (.aload_n 0, 1)) rfl rfl) <| ev_a0) <|
  ev_b (
   ev_a (ok_get X hP (ci := 18) (kf := 3) (T := TX13) (by decide +kernel : decode cX13_commit 80 = .ok (.getfield 16, 3)) rfl ev_in18 (by decide) ev_w1386 (Or.inl rfl) rfl) <|
   ev_a (ok_no) <|
   ev_a (ok_no) <|
   ev_a (ok_ald_n X hP (by decide +kernel : decode cX13_commit 83 = .ok (.aload_n 3, 1)) rfl rfl) <|
   ev_a (ok_invV X hP hR hd2 hcf (ci := 4) ev_y6 rfl (by decide +kernel : decode cX13_commit 84 = .ok (.invokevirtual 67, 3)) ev_w1448 ev_w1445 ev_w1446 ev_w1447 ev_w85 ⟨rfl, ev_dn6⟩ (by decide) rfl) <|
   ev_a (ok_no) <|
   ev_a (ok_no) <|
   ev_a (ok_drop X hP (by decide +kernel : decode cX13_commit 87 = .ok (.pop, 1)) rfl) <|
   ev_a (ok_jmp X hP (by decide +kernel : decode cX13_commit 88 = .ok (.goto (-28), 3)) (by decide)) <|
   ev_a (ok_no) <|
   ev_a (ok_no) <|
   ev_a (ok_ald_n X hP (by decide +kernel : decode cX13_commit 91 = .ok (.aload_n 0, 1)) rfl rfl) <|
   ev_a (ok_get X hP (ci := 18) (kf := 4) (T := TX13) (by decide +kernel : decode cX13_commit 92 = .ok (.getfield 20, 3)) rfl ev_in18 (by decide) ev_w1387 (Or.inl rfl) rfl) <|
   ev_a (ok_no) <|
   ev_a (ok_no) <|
   ev_a (ok_invV X hP hR hd2 hcf (ci := 4) ev_y7 rfl (by decide +kernel : decode cX13_commit 95 = .ok (.invokevirtual 71, 3)) ev_w1510 ev_w1507 ev_w1508 ev_w1509 ev_w85 ⟨rfl, ev_dn7⟩ (by decide) rfl) <| ev_a0) <|
  ev_b (
   ev_a (ok_no) <|
   ev_a (ok_no) <|
   ev_a (ok_ald_n X hP (by decide +kernel : decode cX13_commit 98 = .ok (.aload_n 0, 1)) rfl rfl) <|
   ev_a (ok_dup X hP (by decide +kernel : decode cX13_commit 99 = .ok (.dup, 1)) rfl) <|
   ev_a (ok_get X hP (ci := 18) (kf := 2) (T := TX13) (by decide +kernel : decode cX13_commit 100 = .ok (.getfield 74, 3)) rfl ev_in18 (by decide) ev_w1385 (Or.inl rfl) rfl) <|
   ev_a (ok_no) <|
   ev_a (ok_no) <|
   ev_a (ok_psh_iconst X hP (by decide +kernel : decode cX13_commit 103 = .ok (.iconst 1, 1)) rfl) <|
   ev_a (ok_iadd X hP (by decide +kernel : decode cX13_commit 104 = .ok (.iadd, 1)) rfl) <|
   ev_a (ok_put X hP (ci := 18) (kf := 2) (T := TX13) tyX13 (by decide +kernel : decode cX13_commit 105 = .ok (.putfield 74, 3)) rfl ev_in18 tyX13_ok nmX13 (by decide) ev_w1385 (Or.inl rfl) rfl rfl rfl) <|
   ev_a (ok_no) <|
   ev_a (ok_no) <|
   ev_a (ok_ald_n X hP (by decide +kernel : decode cX13_commit 108 = .ok (.aload_n 0, 1)) rfl rfl) <|
   ev_a (ok_invV X hP hR hd2 hcf (ci := 18) ev_y44 rfl (by decide +kernel : decode cX13_commit 109 = .ok (.invokevirtual 125, 3)) ev_w1614 ev_w1611 ev_w1613 ev_w46 ev_w82 ⟨rfl, ev_dn44⟩ (by decide) rfl) <|
   ev_a (ok_no) <|
   ev_a (ok_no) <| ev_a0) <|
  ev_b (
   ev_a (ok_ald_n X hP (by decide +kernel : decode cX13_commit 112 = .ok (.aload_n 0, 1)) rfl rfl) <|
   ev_a (ok_get X hP (ci := 18) (kf := 2) (T := TX13) (by decide +kernel : decode cX13_commit 113 = .ok (.getfield 74, 3)) rfl ev_in18 (by decide) ev_w1385 (Or.inl rfl) rfl) <|
   ev_a (ok_no) <|
   ev_a (ok_no) <|
   ev_a (ok_ireturn X hP hQ hfin rfl (by decide +kernel : decode cX13_commit 116 = .ok (.ireturn, 1))) <| ev_a0) <|
  ev_b0
set_option maxRecDepth 100000 in
theorem ev_s42 {l : Launch} {d : Nat} {cf : Nat → List Value → ev_W → Option ev_R} {p : Program} {e : Env} {R : Room} {s : State} {m : MethodId} {args : Array Value} {below : List Frame} {meth : Method} {c : Code} {Q : State → Prop} {D : va_G} {G : Nat → ClassId} {ad : Nat → Nat} {A : Nat → Prop} {z wE nE : Nat} {P : Nat → List Value → List Value → ev_W → Nat → Prop} {α : Type} {r : α} {fin : Option Value → ev_W → Nat → Option α} (X : ev_X cX13_committed 8 yX13_committed.cls (some (FieldType.object "java/util/ArrayList")) p s m args meth c D G ad A z) (hP : ev_PP p l e R s m args below meth c Q 8 D G ad A z wE nE P) (hR : wE - z ≤ R.cells ∧ nE ≤ R.slots) (hd2 : d + 1 ≤ R.frames ∧ 64 * (d + 1) ≤ R.locals) (hR1 : 1 ≤ R.frames) (hR2 : 21 ≤ R.locals) (hcf : ev_cf l ev_ys d cf) {Qc : Array Value → State → Outcome → State → Prop} (hQ : Q = MQ below Qc args s (wE - z) nE A) (hfin : ∀ v w n, fin v w n = some r → w.length = wE ∧ n = nE ∧ ∀ H locs, ev_H D G ad A w H → va_S A s.heap H locs → ∀ t : State, t.heap = H → s.WarmedH t.vm → Qc args s (.returned (v.map (ev_v ad))) t) : ev_all2 (ev_ok P r) 0 (ev_o42 cf fin) :=
  ev_b (
   ev_a (ok_new X hP hR (ci := 4) (N := 3) (T := TJx4a65c) tyJx4a65c (by decide +kernel : decode cX13_committed 0 = .ok (.new 13, 3)) rfl ev_in4 tyJx4a65c_ok ev_w1354 ev_w1355 ev_w85 (by decide +kernel) rfl ⟨rfl, by decide⟩ rfl) <|
   ev_a (ok_no) <|
   ev_a (ok_no) <|
   ev_a (ok_dup X hP (by decide +kernel : decode cX13_committed 3 = .ok (.dup, 1)) rfl) <|
   ev_a (ok_invI X hP hR hd2 hcf ev_y10 (by decide +kernel : decode cX13_committed 4 = .ok (.invokespecial 15, 3)) ev_w1358 ev_w1356 ev_w1357 ev_w85 rfl ev_dn10 (by decide) rfl) <|
   ev_a (ok_no) <|
   ev_a (ok_no) <|
   ev_a (ok_ast_n X hP (by decide +kernel : decode cX13_committed 7 = .ok (.astore_n 1, 1)) rfl (by decide) rfl) <|
   ev_a (ok_ald_n X hP (by decide +kernel : decode cX13_committed 8 = .ok (.aload_n 0, 1)) rfl rfl) <|
   ev_a (ok_get X hP (ci := 18) (kf := 2) (T := TX13) (by decide +kernel : decode cX13_committed 9 = .ok (.getfield 74, 3)) rfl ev_in18 (by decide) ev_w1385 (Or.inl rfl) rfl) <|
   ev_a (ok_no) <|
   ev_a (ok_no) <|
   ev_a (ok_psh_iconst X hP (by decide +kernel : decode cX13_committed 12 = .ok (.iconst 1, 1)) rfl) <|
   ev_a (ok_iadd X hP (by decide +kernel : decode cX13_committed 13 = .ok (.iadd, 1)) rfl) <|
   ev_a (ok_ist_n X hP (by decide +kernel : decode cX13_committed 14 = .ok (.istore_n 2, 1)) rfl (by decide) rfl) <|
   ev_a (ok_ald_n X hP (by decide +kernel : decode cX13_committed 15 = .ok (.aload_n 0, 1)) rfl rfl) <| ev_a0) <|
  ev_b (
   ev_a (ok_get X hP (ci := 18) (kf := 3) (T := TX13) (by decide +kernel : decode cX13_committed 16 = .ok (.getfield 16, 3)) rfl ev_in18 (by decide) ev_w1386 (Or.inl rfl) rfl) <|
   ev_a (ok_no) <|
   ev_a (ok_no) <|
   ev_a (ok_invV X hP hR hd2 hcf (ci := 4) ev_y11 rfl (by decide +kernel : decode cX13_committed 19 = .ok (.invokevirtual 77, 3)) ev_w1522 ev_w1519 ev_w1520 ev_w1521 ev_w85 ⟨rfl, ev_dn11⟩ (by decide) rfl) <|
   ev_a (ok_no) <|
   ev_a (ok_no) <|
   ev_a (ok_ast_n X hP (by decide +kernel : decode cX13_committed 22 = .ok (.astore_n 3, 1)) rfl (by decide) rfl) <|
   ev_a (ok_ald_n X hP (by decide +kernel : decode cX13_committed 23 = .ok (.aload_n 3, 1)) rfl rfl) <|
   ev_a (ok_invF X hP hR hd2 hcf (ci := 3) (x := ⟨"java/util/Iterator", "hasNext", "()Z"⟩) ev_y2 rfl (by decide +kernel : decode cX13_committed 24 = .ok (.invokeinterface 81 1, 5)) ev_w1551 ev_w1543 ev_w1547 ev_w1549 ev_w98 (by decide) (by decide +kernel) (by decide) rfl) <|
   ev_a (ok_no) <|
   ev_a (ok_no) <|
   ev_a (ok_no) <|
   ev_a (ok_no) <|
   ev_a (ok_if_eq X hP (by decide +kernel : decode cX13_committed 29 = .ok (.ifCond .eq 73, 3)) (by decide) rfl) <|
   ev_a (ok_no) <|
   ev_a (ok_no) <| ev_a0) <|
  ev_b (
   ev_a (ok_ald_n X hP (by decide +kernel : decode cX13_committed 32 = .ok (.aload_n 3, 1)) rfl rfl) <|
   ev_a (ok_invF X hP hR hd2 hcf (ci := 3) (x := ⟨"java/util/Iterator", "next", "()Ljava/lang/Object;"⟩) ev_y4 rfl (by decide +kernel : decode cX13_committed 33 = .ok (.invokeinterface 87 1, 5)) ev_w1560 ev_w1553 ev_w1556 ev_w1558 ev_w98 (by decide) (by decide +kernel) (by decide) rfl) <|
   ev_a (ok_no) <|
   ev_a (ok_no) <|
   ev_a (ok_no) <|
   ev_a (ok_no) <|
   ev_a (ok_castS X hP (ci := 17) (by decide +kernel : decode cX13_committed 38 = .ok (.checkcast 91, 3)) rfl ev_w1565 rfl) <|
   ev_a (ok_no) <|
   ev_a (ok_no) <|
   ev_a (ok_ast X hP (by decide +kernel : decode cX13_committed 41 = .ok (.astore 4, 2)) (by decide) rfl) <|
   ev_a (ok_no) <|
   ev_a (ok_new X hP hR (ci := 17) (N := 4) (T := TX12) tyX12 (by decide +kernel : decode cX13_committed 43 = .ok (.new 91, 3)) rfl ev_in17 tyX12_ok ev_w1565 ev_w1566 ev_w99 (by decide +kernel) rfl ⟨rfl, by decide⟩ rfl) <|
   ev_a (ok_no) <|
   ev_a (ok_no) <|
   ev_a (ok_dup X hP (by decide +kernel : decode cX13_committed 46 = .ok (.dup, 1)) rfl) <|
   ev_a (ok_invIN X hP hR hd2 hcf ev_y38 (by decide +kernel : decode cX13_committed 47 = .ok (.invokespecial 93, 3)) ev_w1569 ev_w1567 ev_w1568 ev_w99 rfl ev_dn38 (by decide) rfl) <| ev_a0) <|
  ev_b (
   ev_a (ok_no) <|
   ev_a (ok_no) <|
   ev_a (ok_ast X hP (by decide +kernel : decode cX13_committed 50 = .ok (.astore 5, 2)) (by decide) rfl) <|
   ev_a (ok_no) <|
   ev_a (ok_ald X hP (by decide +kernel : decode cX13_committed 52 = .ok (.aload 5, 2)) rfl) <|
   ev_a (ok_no) <|
   ev_a (ok_ald X hP (by decide +kernel : decode cX13_committed 54 = .ok (.aload 4, 2)) rfl) <|
   ev_a (ok_no) <|
   ev_a (ok_getN X hP (ci := 17) (kf := 0) (T := TX12) (by decide +kernel : decode cX13_committed 56 = .ok (.getfield 94, 3)) rfl ev_in17 (by decide) ev_w1571 (Or.inl rfl) rfl) <|
   ev_a (ok_no) <|
   ev_a (ok_no) <|
   ev_a (ok_putN X hP (ci := 17) (kf := 0) (T := TX12) tyX12 (by decide +kernel : decode cX13_committed 59 = .ok (.putfield 94, 3)) rfl ev_in17 tyX12_ok nmX12 (by decide) ev_w1571 (Or.inl rfl) rfl rfl rfl) <|
   ev_a (ok_no) <|
   ev_a (ok_no) <|
   ev_a (ok_ald X hP (by decide +kernel : decode cX13_committed 62 = .ok (.aload 5, 2)) rfl) <|
   ev_a (ok_no) <| ev_a0) <|
  ev_b (
   ev_a (ok_ald X hP (by decide +kernel : decode cX13_committed 64 = .ok (.aload 4, 2)) rfl) <|
   ev_a (ok_no) <|
   ev_a (ok_getN X hP (ci := 17) (kf := 1) (T := TX12) (by decide +kernel : decode cX13_committed 66 = .ok (.getfield 97, 3)) rfl ev_in17 (by decide) ev_w1572 (Or.inl rfl) rfl) <|
   ev_a (ok_no) <|
   ev_a (ok_no) <|
   ev_a (ok_putN X hP (ci := 17) (kf := 1) (T := TX12) tyX12 (by decide +kernel : decode cX13_committed 69 = .ok (.putfield 97, 3)) rfl ev_in17 tyX12_ok nmX12 (by decide) ev_w1572 (Or.inl rfl) rfl rfl rfl) <|
   ev_a (ok_no) <|
   ev_a (ok_no) <|
   ev_a (ok_ald X hP (by decide +kernel : decode cX13_committed 72 = .ok (.aload 5, 2)) rfl) <|
   ev_a (ok_no) <|
   ev_a (ok_ald X hP (by decide +kernel : decode cX13_committed 74 = .ok (.aload 4, 2)) rfl) <|
   ev_a (ok_no) <|
   ev_a (ok_getN X hP (ci := 17) (kf := 2) (T := TX12) (by decide +kernel : decode cX13_committed 76 = .ok (.getfield 100, 3)) rfl ev_in17 (by decide) ev_w1574 (Or.inl rfl) rfl) <|
   ev_a (ok_no) <|
   ev_a (ok_no) <|
   ev_a (ok_putN X hP (ci := 17) (kf := 2) (T := TX12) tyX12 (by decide +kernel : decode cX13_committed 79 = .ok (.putfield 100, 3)) rfl ev_in17 tyX12_ok nmX12 (by decide) ev_w1574 (Or.inl rfl) rfl rfl rfl) <| ev_a0) <|
  ev_b (
   ev_a (ok_no) <|
   ev_a (ok_no) <|
   ev_a (ok_ald X hP (by decide +kernel : decode cX13_committed 82 = .ok (.aload 5, 2)) rfl) <|
   ev_a (ok_no) <|
   ev_a (ok_ald X hP (by decide +kernel : decode cX13_committed 84 = .ok (.aload 4, 2)) rfl) <|
   ev_a (ok_no) <|
   ev_a (ok_getN X hP (ci := 17) (kf := 3) (T := TX12) (by decide +kernel : decode cX13_committed 86 = .ok (.getfield 103, 3)) rfl ev_in17 (by decide) ev_w1576 (Or.inl rfl) rfl) <|
   ev_a (ok_no) <|
   ev_a (ok_no) <|
   ev_a (ok_putN X hP (ci := 17) (kf := 3) (T := TX12) tyX12 (by decide +kernel : decode cX13_committed 89 = .ok (.putfield 103, 3)) rfl ev_in17 tyX12_ok nmX12 (by decide) ev_w1576 (Or.inl rfl) rfl rfl rfl) <|
   ev_a (ok_no) <|
   ev_a (ok_no) <|
   ev_a (ok_ald_n X hP (by decide +kernel : decode cX13_committed 92 = .ok (.aload_n 1, 1)) rfl rfl) <|
   ev_a (ok_ald X hP (by decide +kernel : decode cX13_committed 93 = .ok (.aload 5, 2)) rfl) <|
   ev_a (ok_no) <|
   ev_a (ok_invV X hP hR hd2 hcf (ci := 4) ev_y6 rfl (by decide +kernel : decode cX13_committed 95 = .ok (.invokevirtual 67, 3)) ev_w1448 ev_w1445 ev_w1446 ev_w1447 ev_w85 ⟨rfl, ev_dn6⟩ (by decide) rfl) <| ev_a0) <|
  ev_b (
   ev_a (ok_no) <|
   ev_a (ok_no) <|
   ev_a (ok_drop X hP (by decide +kernel : decode cX13_committed 98 = .ok (.pop, 1)) rfl) <|
   ev_a (ok_jmp X hP (by decide +kernel : decode cX13_committed 99 = .ok (.goto (-76), 3)) (by decide)) <|
   ev_a (ok_no) <|
   ev_a (ok_no) <|
   ev_a (ok_ald_n X hP (by decide +kernel : decode cX13_committed 102 = .ok (.aload_n 0, 1)) rfl rfl) <|
   ev_a (ok_get X hP (ci := 18) (kf := 4) (T := TX13) (by decide +kernel : decode cX13_committed 103 = .ok (.getfield 20, 3)) rfl ev_in18 (by decide) ev_w1387 (Or.inl rfl) rfl) <|
   ev_a (ok_no) <|
   ev_a (ok_no) <|
   ev_a (ok_invV X hP hR hd2 hcf (ci := 4) ev_y11 rfl (by decide +kernel : decode cX13_committed 106 = .ok (.invokevirtual 77, 3)) ev_w1522 ev_w1519 ev_w1520 ev_w1521 ev_w85 ⟨rfl, ev_dn11⟩ (by decide) rfl) <|
   ev_a (ok_no) <|
   ev_a (ok_no) <|
   ev_a (ok_ast_n X hP (by decide +kernel : decode cX13_committed 109 = .ok (.astore_n 3, 1)) rfl (by decide) rfl) <|
   ev_a (ok_ald_n X hP (by decide +kernel : decode cX13_committed 110 = .ok (.aload_n 3, 1)) rfl rfl) <|
   ev_a (ok_invF X hP hR hd2 hcf (ci := 3) (x := ⟨"java/util/Iterator", "hasNext", "()Z"⟩) ev_y2 rfl (by decide +kernel : decode cX13_committed 111 = .ok (.invokeinterface 81 1, 5)) ev_w1551 ev_w1543 ev_w1547 ev_w1549 ev_w98 (by decide) (by decide +kernel) (by decide) rfl) <| ev_a0) <|
  ev_b (
   ev_a (ok_no) <|
   ev_a (ok_no) <|
   ev_a (ok_no) <|
   ev_a (ok_no) <|
   ev_a (ok_if_eq X hP (by decide +kernel : decode cX13_committed 116 = .ok (.ifCond .eq 190, 3)) (by decide) rfl) <|
   ev_a (ok_no) <|
   ev_a (ok_no) <|
   ev_a (ok_ald_n X hP (by decide +kernel : decode cX13_committed 119 = .ok (.aload_n 3, 1)) rfl rfl) <|
   ev_a (ok_invF X hP hR hd2 hcf (ci := 3) (x := ⟨"java/util/Iterator", "next", "()Ljava/lang/Object;"⟩) ev_y4 rfl (by decide +kernel : decode cX13_committed 120 = .ok (.invokeinterface 87 1, 5)) ev_w1560 ev_w1553 ev_w1556 ev_w1558 ev_w98 (by decide) (by decide +kernel) (by decide) rfl) <|
   ev_a (ok_no) <|
   ev_a (ok_no) <|
   ev_a (ok_no) <|
   ev_a (ok_no) <|
   ev_a (ok_castA X hP (by decide +kernel : decode cX13_committed 125 = .ok (.checkcast 106, 3)) ev_w1586 rfl) <|
   ev_a (ok_no) <|
   ev_a (ok_no) <| ev_a0) <|
  ev_b (
   ev_a (ok_ast X hP (by decide +kernel : decode cX13_committed 128 = .ok (.astore 4, 2)) (by decide) rfl) <|
   ev_a (ok_no) <|
   ev_a (ok_psh_iconst X hP (by decide +kernel : decode cX13_committed 130 = .ok (.iconst 0, 1)) rfl) <|
   ev_a (ok_ist X hP (by decide +kernel : decode cX13_committed 131 = .ok (.istore 5, 2)) (by decide) rfl) <|
   ev_a (ok_no) <|
   ev_a (ok_ald_n X hP (by decide +kernel : decode cX13_committed 133 = .ok (.aload_n 1, 1)) rfl rfl) <|
   ev_a (ok_invV X hP hR hd2 hcf (ci := 4) ev_y11 rfl (by decide +kernel : decode cX13_committed 134 = .ok (.invokevirtual 77, 3)) ev_w1522 ev_w1519 ev_w1520 ev_w1521 ev_w85 ⟨rfl, ev_dn11⟩ (by decide) rfl) <|
   ev_a (ok_no) <|
   ev_a (ok_no) <|
   ev_a (ok_ast X hP (by decide +kernel : decode cX13_committed 137 = .ok (.astore 6, 2)) (by decide) rfl) <|
   ev_a (ok_no) <|
   ev_a (ok_ald X hP (by decide +kernel : decode cX13_committed 139 = .ok (.aload 6, 2)) rfl) <|
   ev_a (ok_no) <|
   ev_a (ok_invF X hP hR hd2 hcf (ci := 3) (x := ⟨"java/util/Iterator", "hasNext", "()Z"⟩) ev_y2 rfl (by decide +kernel : decode cX13_committed 141 = .ok (.invokeinterface 81 1, 5)) ev_w1551 ev_w1543 ev_w1547 ev_w1549 ev_w98 (by decide) (by decide +kernel) (by decide) rfl) <|
   ev_a (ok_no) <|
   ev_a (ok_no) <| ev_a0) <|
  ev_b (
   ev_a (ok_no) <|
   ev_a (ok_no) <|
   ev_a (ok_if_eq X hP (by decide +kernel : decode cX13_committed 146 = .ok (.ifCond .eq 102, 3)) (by decide) rfl) <|
   ev_a (ok_no) <|
   ev_a (ok_no) <|
   ev_a (ok_ald X hP (by decide +kernel : decode cX13_committed 149 = .ok (.aload 6, 2)) rfl) <|
   ev_a (ok_no) <|
   ev_a (ok_invF X hP hR hd2 hcf (ci := 3) (x := ⟨"java/util/Iterator", "next", "()Ljava/lang/Object;"⟩) ev_y4 rfl (by decide +kernel : decode cX13_committed 151 = .ok (.invokeinterface 87 1, 5)) ev_w1560 ev_w1553 ev_w1556 ev_w1558 ev_w98 (by decide) (by decide +kernel) (by decide) rfl) <|
   ev_a (ok_no) <|
   ev_a (ok_no) <|
   ev_a (ok_no) <|
   ev_a (ok_no) <|
   ev_a (ok_castS X hP (ci := 17) (by decide +kernel : decode cX13_committed 156 = .ok (.checkcast 91, 3)) rfl ev_w1565 rfl) <|
   ev_a (ok_no) <|
   ev_a (ok_no) <|
   ev_a (ok_ast X hP (by decide +kernel : decode cX13_committed 159 = .ok (.astore 7, 2)) (by decide) rfl) <| ev_a0) <|
  ev_b (
   ev_a (ok_no) <|
   ev_a (ok_ald X hP (by decide +kernel : decode cX13_committed 161 = .ok (.aload 7, 2)) rfl) <|
   ev_a (ok_no) <|
   ev_a (ok_ild_n X hP (by decide +kernel : decode cX13_committed 163 = .ok (.iload_n 2, 1)) rfl rfl) <|
   ev_a (ok_invV X hP hR hd2 hcf (ci := 17) ev_y37 rfl (by decide +kernel : decode cX13_committed 164 = .ok (.invokevirtual 107, 3)) ev_w1590 ev_w1587 ev_w1588 ev_w1589 ev_w99 ⟨rfl, ev_dn37⟩ (by decide) rfl) <|
   ev_a (ok_no) <|
   ev_a (ok_no) <|
   ev_a (ok_if_ne X hP (by decide +kernel : decode cX13_committed 167 = .ok (.ifCond .ne 6, 3)) (by decide) rfl) <|
   ev_a (ok_no) <|
   ev_a (ok_no) <|
   ev_a (ok_jmp X hP (by decide +kernel : decode cX13_committed 170 = .ok (.goto (-31), 3)) (by decide)) <|
   ev_a (ok_no) <|
   ev_a (ok_no) <|
   ev_a (ok_ald X hP (by decide +kernel : decode cX13_committed 173 = .ok (.aload 4, 2)) rfl) <|
   ev_a (ok_no) <|
   ev_a (ok_psh_iconst X hP (by decide +kernel : decode cX13_committed 175 = .ok (.iconst 1, 1)) rfl) <| ev_a0) <|
  ev_b (
   ev_a (ok_ialoads X hP (by decide +kernel : decode cX13_committed 176 = .ok (.iaload, 1)) rfl) <|
   ev_a (ok_if_ne X hP (by decide +kernel : decode cX13_committed 177 = .ok (.ifCond .ne 29, 3)) (by decide) rfl) <|
   ev_a (ok_no) <|
   ev_a (ok_no) <|
   ev_a (ok_ald_n X hP (by decide +kernel : decode cX13_committed 180 = .ok (.aload_n 0, 1)) rfl rfl) <|
   ev_a (ok_ald X hP (by decide +kernel : decode cX13_committed 181 = .ok (.aload 7, 2)) rfl) <|
   ev_a (ok_no) <|
   ev_a (ok_getN X hP (ci := 17) (kf := 0) (T := TX12) (by decide +kernel : decode cX13_committed 183 = .ok (.getfield 94, 3)) rfl ev_in17 (by decide) ev_w1571 (Or.inl rfl) rfl) <|
   ev_a (ok_no) <|
   ev_a (ok_no) <|
   ev_a (ok_invV X hP hR hd2 hcf (ci := 18) ev_y50 rfl (by decide +kernel : decode cX13_committed 186 = .ok (.invokevirtual 110, 3)) ev_w1594 ev_w1591 ev_w1593 ev_w42 ev_w82 ⟨rfl, ev_dn50⟩ (by decide) rfl) <|
   ev_a (ok_no) <|
   ev_a (ok_no) <|
   ev_a (ok_ald_n X hP (by decide +kernel : decode cX13_committed 189 = .ok (.aload_n 0, 1)) rfl rfl) <|
   ev_a (ok_ald X hP (by decide +kernel : decode cX13_committed 190 = .ok (.aload 4, 2)) rfl) <|
   ev_a (ok_no) <| ev_a0) <|
  ev_b (
   ev_a (ok_psh_iconst X hP (by decide +kernel : decode cX13_committed 192 = .ok (.iconst 0, 1)) rfl) <|
   ev_a (ok_ialoads X hP (by decide +kernel : decode cX13_committed 193 = .ok (.iaload, 1)) rfl) <|
   ev_a (ok_invV X hP hR hd2 hcf (ci := 18) ev_y50 rfl (by decide +kernel : decode cX13_committed 194 = .ok (.invokevirtual 110, 3)) ev_w1594 ev_w1591 ev_w1593 ev_w42 ev_w82 ⟨rfl, ev_dn50⟩ (by decide) rfl) <|
   ev_a (ok_no) <|
   ev_a (ok_no) <|
   ev_a (ok_icmp_ne X hP (by decide +kernel : decode cX13_committed 197 = .ok (.if_icmp .ne 9, 3)) (by decide) rfl) <|
   ev_a (ok_no) <|
   ev_a (ok_no) <|
   ev_a (ok_ald X hP (by decide +kernel : decode cX13_committed 200 = .ok (.aload 7, 2)) rfl) <|
   ev_a (ok_no) <|
   ev_a (ok_ild_n X hP (by decide +kernel : decode cX13_committed 202 = .ok (.iload_n 2, 1)) rfl rfl) <|
   ev_a (ok_putN X hP (ci := 17) (kf := 3) (T := TX12) tyX12 (by decide +kernel : decode cX13_committed 203 = .ok (.putfield 103, 3)) rfl ev_in17 tyX12_ok nmX12 (by decide) ev_w1576 (Or.inl rfl) rfl rfl rfl) <|
   ev_a (ok_no) <|
   ev_a (ok_no) <|
   ev_a (ok_ald X hP (by decide +kernel : decode cX13_committed 206 = .ok (.aload 4, 2)) rfl) <|
   ev_a (ok_no) <| ev_a0) <|
  ev_b (
   ev_a (ok_psh_iconst X hP (by decide +kernel : decode cX13_committed 208 = .ok (.iconst 1, 1)) rfl) <|
   ev_a (ok_ialoads X hP (by decide +kernel : decode cX13_committed 209 = .ok (.iaload, 1)) rfl) <|
   ev_a (ok_if_le X hP (by decide +kernel : decode cX13_committed 210 = .ok (.ifCond .le 35, 3)) (by decide) rfl) <|
   ev_a (ok_no) <|
   ev_a (ok_no) <|
   ev_a (ok_ald X hP (by decide +kernel : decode cX13_committed 213 = .ok (.aload 7, 2)) rfl) <|
   ev_a (ok_no) <|
   ev_a (ok_getN X hP (ci := 17) (kf := 0) (T := TX12) (by decide +kernel : decode cX13_committed 215 = .ok (.getfield 94, 3)) rfl ev_in17 (by decide) ev_w1571 (Or.inl rfl) rfl) <|
   ev_a (ok_no) <|
   ev_a (ok_no) <|
   ev_a (ok_ald X hP (by decide +kernel : decode cX13_committed 218 = .ok (.aload 4, 2)) rfl) <|
   ev_a (ok_no) <|
   ev_a (ok_psh_iconst X hP (by decide +kernel : decode cX13_committed 220 = .ok (.iconst 0, 1)) rfl) <|
   ev_a (ok_ialoads X hP (by decide +kernel : decode cX13_committed 221 = .ok (.iaload, 1)) rfl) <|
   ev_a (ok_icmp_ne X hP (by decide +kernel : decode cX13_committed 222 = .ok (.if_icmp .ne 23, 3)) (by decide) rfl) <|
   ev_a (ok_no) <| ev_a0) <|
  ev_b (
   ev_a (ok_no) <|
   ev_a (ok_ald X hP (by decide +kernel : decode cX13_committed 225 = .ok (.aload 7, 2)) rfl) <|
   ev_a (ok_no) <|
   ev_a (ok_ald X hP (by decide +kernel : decode cX13_committed 227 = .ok (.aload 7, 2)) rfl) <|
   ev_a (ok_no) <|
   ev_a (ok_getN X hP (ci := 17) (kf := 1) (T := TX12) (by decide +kernel : decode cX13_committed 229 = .ok (.getfield 97, 3)) rfl ev_in17 (by decide) ev_w1572 (Or.inl rfl) rfl) <|
   ev_a (ok_no) <|
   ev_a (ok_no) <|
   ev_a (ok_ald X hP (by decide +kernel : decode cX13_committed 232 = .ok (.aload 4, 2)) rfl) <|
   ev_a (ok_no) <|
   ev_a (ok_psh_iconst X hP (by decide +kernel : decode cX13_committed 234 = .ok (.iconst 1, 1)) rfl) <|
   ev_a (ok_ialoads X hP (by decide +kernel : decode cX13_committed 235 = .ok (.iaload, 1)) rfl) <|
   ev_a (ok_no) <|
   ev_a (ok_no) <|
   ev_a (ok_no) <|
   ev_a (ok_putN X hP (ci := 17) (kf := 1) (T := TX12) tyX12 (by decide +kernel : decode cX13_committed 239 = .ok (.putfield 97, 3)) rfl ev_in17 tyX12_ok nmX12 (by decide) ev_w1572 (Or.inl rfl) rfl rfl rfl) <| ev_a0) <|
  ev_b (
   ev_a (ok_no) <|
   ev_a (ok_no) <|
   ev_a (ok_psh_iconst X hP (by decide +kernel : decode cX13_committed 242 = .ok (.iconst 1, 1)) rfl) <|
   ev_a (ok_ist X hP (by decide +kernel : decode cX13_committed 243 = .ok (.istore 5, 2)) (by decide) rfl) <|
   ev_a (ok_no) <|
   ev_a (ok_jmp X hP (by decide +kernel : decode cX13_committed 245 = .ok (.goto (-106), 3)) (by decide)) <|
   ev_a (ok_no) <|
   ev_a (ok_no) <|
   ev_a (ok_ald X hP (by decide +kernel : decode cX13_committed 248 = .ok (.aload 4, 2)) rfl) <|
   ev_a (ok_no) <|
   ev_a (ok_psh_iconst X hP (by decide +kernel : decode cX13_committed 250 = .ok (.iconst 1, 1)) rfl) <|
   ev_a (ok_ialoads X hP (by decide +kernel : decode cX13_committed 251 = .ok (.iaload, 1)) rfl) <|
   ev_a (ok_if_eq X hP (by decide +kernel : decode cX13_committed 252 = .ok (.ifCond .eq (-142), 3)) (by decide) rfl) <|
   ev_a (ok_no) <|
   ev_a (ok_no) <|
   ev_a (ok_ild X hP (by decide +kernel : decode cX13_committed 255 = .ok (.iload 5, 2)) rfl) <| ev_a0) <|
  ev_b (
   ev_a (ok_no) <|
   ev_a (ok_if_eq X hP (by decide +kernel : decode cX13_committed 257 = .ok (.ifCond .eq 6, 3)) (by decide) rfl) <|
   ev_a (ok_no) <|
   ev_a (ok_no) <|
   ev_a (ok_jmp X hP (by decide +kernel : decode cX13_committed 260 = .ok (.goto (-150), 3)) (by decide)) <|
   ev_a (ok_no) <|
   ev_a (ok_no) <|
   ev_a (ok_new X hP hR (ci := 17) (N := 4) (T := TX12) tyX12 (by decide +kernel : decode cX13_committed 263 = .ok (.new 91, 3)) rfl ev_in17 tyX12_ok ev_w1565 ev_w1566 ev_w99 (by decide +kernel) rfl ⟨rfl, by decide⟩ rfl) <|
   ev_a (ok_no) <|
   ev_a (ok_no) <|
   ev_a (ok_dup X hP (by decide +kernel : decode cX13_committed 266 = .ok (.dup, 1)) rfl) <|
   ev_a (ok_invIN X hP hR hd2 hcf ev_y38 (by decide +kernel : decode cX13_committed 267 = .ok (.invokespecial 93, 3)) ev_w1569 ev_w1567 ev_w1568 ev_w99 rfl ev_dn38 (by decide) rfl) <|
   ev_a (ok_no) <|
   ev_a (ok_no) <|
   ev_a (ok_ast X hP (by decide +kernel : decode cX13_committed 270 = .ok (.astore 6, 2)) (by decide) rfl) <|
   ev_a (ok_no) <| ev_a0) <|
  ev_b (
   ev_a (ok_ald X hP (by decide +kernel : decode cX13_committed 272 = .ok (.aload 6, 2)) rfl) <|
   ev_a (ok_no) <|
   ev_a (ok_ald X hP (by decide +kernel : decode cX13_committed 274 = .ok (.aload 4, 2)) rfl) <|
   ev_a (ok_no) <|
   ev_a (ok_psh_iconst X hP (by decide +kernel : decode cX13_committed 276 = .ok (.iconst 0, 1)) rfl) <|
   ev_a (ok_ialoads X hP (by decide +kernel : decode cX13_committed 277 = .ok (.iaload, 1)) rfl) <|
   ev_a (ok_putN X hP (ci := 17) (kf := 0) (T := TX12) tyX12 (by decide +kernel : decode cX13_committed 278 = .ok (.putfield 94, 3)) rfl ev_in17 tyX12_ok nmX12 (by decide) ev_w1571 (Or.inl rfl) rfl rfl rfl) <|
   ev_a (ok_no) <|
   ev_a (ok_no) <|
   ev_a (ok_ald X hP (by decide +kernel : decode cX13_committed 281 = .ok (.aload 6, 2)) rfl) <|
   ev_a (ok_no) <|
   ev_a (ok_ald X hP (by decide +kernel : decode cX13_committed 283 = .ok (.aload 4, 2)) rfl) <|
   ev_a (ok_no) <|
   ev_a (ok_psh_iconst X hP (by decide +kernel : decode cX13_committed 285 = .ok (.iconst 1, 1)) rfl) <|
   ev_a (ok_ialoads X hP (by decide +kernel : decode cX13_committed 286 = .ok (.iaload, 1)) rfl) <|
   ev_a (ok_putN X hP (ci := 17) (kf := 1) (T := TX12) tyX12 (by decide +kernel : decode cX13_committed 287 = .ok (.putfield 97, 3)) rfl ev_in17 tyX12_ok nmX12 (by decide) ev_w1572 (Or.inl rfl) rfl rfl rfl) <| ev_a0) <|
  ev_b (
   ev_a (ok_no) <|
   ev_a (ok_no) <|
   ev_a (ok_ald X hP (by decide +kernel : decode cX13_committed 290 = .ok (.aload 6, 2)) rfl) <|
   ev_a (ok_no) <|
   ev_a (ok_ild_n X hP (by decide +kernel : decode cX13_committed 292 = .ok (.iload_n 2, 1)) rfl rfl) <|
   ev_a (ok_putN X hP (ci := 17) (kf := 2) (T := TX12) tyX12 (by decide +kernel : decode cX13_committed 293 = .ok (.putfield 100, 3)) rfl ev_in17 tyX12_ok nmX12 (by decide) ev_w1574 (Or.inl rfl) rfl rfl rfl) <|
   ev_a (ok_no) <|
   ev_a (ok_no) <|
   ev_a (ok_ald_n X hP (by decide +kernel : decode cX13_committed 296 = .ok (.aload_n 1, 1)) rfl rfl) <|
   ev_a (ok_ald X hP (by decide +kernel : decode cX13_committed 297 = .ok (.aload 6, 2)) rfl) <|
   ev_a (ok_no) <|
   ev_a (ok_invV X hP hR hd2 hcf (ci := 4) ev_y6 rfl (by decide +kernel : decode cX13_committed 299 = .ok (.invokevirtual 67, 3)) ev_w1448 ev_w1445 ev_w1446 ev_w1447 ev_w85 ⟨rfl, ev_dn6⟩ (by decide) rfl) <|
   ev_a (ok_no) <|
   ev_a (ok_no) <|
   ev_a (ok_drop X hP (by decide +kernel : decode cX13_committed 302 = .ok (.pop, 1)) rfl) <|
   ev_a (ok_jmp X hP (by decide +kernel : decode cX13_committed 303 = .ok (.goto (-193), 3)) (by decide)) <| ev_a0) <|
  ev_b (
   ev_a (ok_no) <|
   ev_a (ok_no) <|
   ev_a (ok_ald_n X hP (by decide +kernel : decode cX13_committed 306 = .ok (.aload_n 1, 1)) rfl rfl) <|
   ev_a (ok_areturn X hP hQ hfin rfl (Or.inl ⟨_, rfl⟩) (by decide +kernel : decode cX13_committed 307 = .ok (.areturn, 1))) <| ev_a0) <|
  ev_b0
set_option maxRecDepth 100000 in
theorem ev_s43 {l : Launch} {d : Nat} {cf : Nat → List Value → ev_W → Option ev_R} {p : Program} {e : Env} {R : Room} {s : State} {m : MethodId} {args : Array Value} {below : List Frame} {meth : Method} {c : Code} {Q : State → Prop} {D : va_G} {G : Nat → ClassId} {ad : Nat → Nat} {A : Nat → Prop} {z wE nE : Nat} {P : Nat → List Value → List Value → ev_W → Nat → Prop} {α : Type} {r : α} {fin : Option Value → ev_W → Nat → Option α} (X : ev_X cX13_digit 2 yX13_digit.cls (some FieldType.int) p s m args meth c D G ad A z) (hP : ev_PP p l e R s m args below meth c Q 2 D G ad A z wE nE P) (hR : wE - z ≤ R.cells ∧ nE ≤ R.slots) (hd2 : d + 1 ≤ R.frames ∧ 64 * (d + 1) ≤ R.locals) (hR1 : 1 ≤ R.frames) (hR2 : 21 ≤ R.locals) (hcf : ev_cf l ev_ys d cf) {Qc : Array Value → State → Outcome → State → Prop} (hQ : Q = MQ below Qc args s (wE - z) nE A) (hfin : ∀ v w n, fin v w n = some r → w.length = wE ∧ n = nE ∧ ∀ H locs, ev_H D G ad A w H → va_S A s.heap H locs → ∀ t : State, t.heap = H → s.WarmedH t.vm → Qc args s (.returned (v.map (ev_v ad))) t) : ev_all2 (ev_ok P r) 0 (ev_o43 cf fin) :=
  ev_b (
   ev_a (ok_ild_n X hP (by decide +kernel : decode cX13_digit 0 = .ok (.iload_n 1, 1)) rfl rfl) <|
   ev_a (ok_if_ne X hP (by decide +kernel : decode cX13_digit 1 = .ok (.ifCond .ne 10, 3)) (by decide) rfl) <|
   ev_a (ok_no) <|
   ev_a (ok_no) <|
   ev_a (ok_ild_n X hP (by decide +kernel : decode cX13_digit 4 = .ok (.iload_n 0, 1)) rfl rfl) <|
   ev_a (ok_psh_bipush X hP (by decide +kernel : decode cX13_digit 5 = .ok (.bipush 100, 2)) rfl) <|
   ev_a (ok_no) <|
   ev_a (ok_idiv X hP (by decide +kernel : decode cX13_digit 7 = .ok (.idiv, 1)) rfl) <|
   ev_a (ok_jmp X hP (by decide +kernel : decode cX13_digit 8 = .ok (.goto 22, 3)) (by decide)) <|
   ev_a (ok_no) <|
   ev_a (ok_no) <|
   ev_a (ok_ild_n X hP (by decide +kernel : decode cX13_digit 11 = .ok (.iload_n 1, 1)) rfl rfl) <|
   ev_a (ok_psh_iconst X hP (by decide +kernel : decode cX13_digit 12 = .ok (.iconst 1, 1)) rfl) <|
   ev_a (ok_icmp_ne X hP (by decide +kernel : decode cX13_digit 13 = .ok (.if_icmp .ne 13, 3)) (by decide) rfl) <|
   ev_a (ok_no) <|
   ev_a (ok_no) <| ev_a0) <|
  ev_b (
   ev_a (ok_ild_n X hP (by decide +kernel : decode cX13_digit 16 = .ok (.iload_n 0, 1)) rfl rfl) <|
   ev_a (ok_psh_bipush X hP (by decide +kernel : decode cX13_digit 17 = .ok (.bipush 10, 2)) rfl) <|
   ev_a (ok_no) <|
   ev_a (ok_idiv X hP (by decide +kernel : decode cX13_digit 19 = .ok (.idiv, 1)) rfl) <|
   ev_a (ok_psh_bipush X hP (by decide +kernel : decode cX13_digit 20 = .ok (.bipush 10, 2)) rfl) <|
   ev_a (ok_no) <|
   ev_a (ok_irem X hP (by decide +kernel : decode cX13_digit 22 = .ok (.irem, 1)) rfl) <|
   ev_a (ok_jmp X hP (by decide +kernel : decode cX13_digit 23 = .ok (.goto 7, 3)) (by decide)) <|
   ev_a (ok_no) <|
   ev_a (ok_no) <|
   ev_a (ok_ild_n X hP (by decide +kernel : decode cX13_digit 26 = .ok (.iload_n 0, 1)) rfl rfl) <|
   ev_a (ok_psh_bipush X hP (by decide +kernel : decode cX13_digit 27 = .ok (.bipush 10, 2)) rfl) <|
   ev_a (ok_no) <|
   ev_a (ok_irem X hP (by decide +kernel : decode cX13_digit 29 = .ok (.irem, 1)) rfl) <|
   ev_a (ok_ireturn X hP hQ hfin rfl (by decide +kernel : decode cX13_digit 30 = .ok (.ireturn, 1))) <| ev_a0) <|
  ev_b0
set_option maxRecDepth 100000 in
theorem ev_s44 {l : Launch} {d : Nat} {cf : Nat → List Value → ev_W → Option ev_R} {p : Program} {e : Env} {R : Room} {s : State} {m : MethodId} {args : Array Value} {below : List Frame} {meth : Method} {c : Code} {Q : State → Prop} {D : va_G} {G : Nat → ClassId} {ad : Nat → Nat} {A : Nat → Prop} {z wE nE : Nat} {P : Nat → List Value → List Value → ev_W → Nat → Prop} {α : Type} {r : α} {fin : Option Value → ev_W → Nat → Option α} (X : ev_X cX13_forget 1 yX13_forget.cls none p s m args meth c D G ad A z) (hP : ev_PP p l e R s m args below meth c Q 1 D G ad A z wE nE P) (hR : wE - z ≤ R.cells ∧ nE ≤ R.slots) (hd2 : d + 1 ≤ R.frames ∧ 64 * (d + 1) ≤ R.locals) (hR1 : 1 ≤ R.frames) (hR2 : 21 ≤ R.locals) (hcf : ev_cf l ev_ys d cf) {Qc : Array Value → State → Outcome → State → Prop} (hQ : Q = MQ below Qc args s (wE - z) nE A) (hfin : ∀ v w n, fin v w n = some r → w.length = wE ∧ n = nE ∧ ∀ H locs, ev_H D G ad A w H → va_S A s.heap H locs → ∀ t : State, t.heap = H → s.WarmedH t.vm → Qc args s (.returned (v.map (ev_v ad))) t) : ev_all2 (ev_ok P r) 0 (ev_o44 cf fin) :=
  ev_b (
   ev_a (ok_ald_n X hP (by decide +kernel : decode cX13_forget 0 = .ok (.aload_n 0, 1)) rfl rfl) <|
   ev_a (ok_psh_null X hP (by decide +kernel : decode cX13_forget 1 = .ok (.aconst_null, 1)) rfl) <|
   ev_a (ok_put X hP (ci := 18) (kf := 9) (T := TX13) tyX13 (by decide +kernel : decode cX13_forget 2 = .ok (.putfield 128, 3)) rfl ev_in18 tyX13_ok nmX13 (by decide) ev_w1392 (Or.inl rfl) rfl rfl rfl) <|
   ev_a (ok_no) <|
   ev_a (ok_no) <|
   ev_a (ok_ald_n X hP (by decide +kernel : decode cX13_forget 5 = .ok (.aload_n 0, 1)) rfl rfl) <|
   ev_a (ok_psh_null X hP (by decide +kernel : decode cX13_forget 6 = .ok (.aconst_null, 1)) rfl) <|
   ev_a (ok_put X hP (ci := 18) (kf := 10) (T := TX13) tyX13 (by decide +kernel : decode cX13_forget 7 = .ok (.putfield 131, 3)) rfl ev_in18 tyX13_ok nmX13 (by decide) ev_w1393 (Or.inl rfl) rfl rfl rfl) <|
   ev_a (ok_no) <|
   ev_a (ok_no) <|
   ev_a (ok_return X hP hQ hfin rfl (by decide +kernel : decode cX13_forget 10 = .ok (.return_, 1))) <| ev_a0) <|
  ev_b0
set_option maxRecDepth 100000 in
theorem ev_s45 {l : Launch} {d : Nat} {cf : Nat → List Value → ev_W → Option ev_R} {p : Program} {e : Env} {R : Room} {s : State} {m : MethodId} {args : Array Value} {below : List Frame} {meth : Method} {c : Code} {Q : State → Prop} {D : va_G} {G : Nat → ClassId} {ad : Nat → Nat} {A : Nat → Prop} {z wE nE : Nat} {P : Nat → List Value → List Value → ev_W → Nat → Prop} {α : Type} {r : α} {fin : Option Value → ev_W → Nat → Option α} (X : ev_X cX13_init 1 yX13_init.cls none p s m args meth c D G ad A z) (hP : ev_PP p l e R s m args below meth c Q 1 D G ad A z wE nE P) (hR : wE - z ≤ R.cells ∧ nE ≤ R.slots) (hd2 : d + 1 ≤ R.frames ∧ 64 * (d + 1) ≤ R.locals) (hR1 : 1 ≤ R.frames) (hR2 : 21 ≤ R.locals) (hcf : ev_cf l ev_ys d cf) (hin2 : meth.name = "<init>") {Qc : Array Value → State → Outcome → State → Prop} (hQ : Q = MQ below Qc args s (wE - z) nE A) (hfin : ∀ v w n, fin v w n = some r → w.length = wE ∧ n = nE ∧ ∀ H locs, ev_H D G ad A w H → va_S A s.heap H locs → ∀ t : State, t.heap = H → s.WarmedH t.vm → Qc args s (.returned (v.map (ev_v ad))) t) : ev_all2 (ev_ok P r) 0 (ev_o45 cf fin) :=
  ev_b (
   ev_a (ok_ald_n X hP (by decide +kernel : decode cX13_init 0 = .ok (.aload_n 0, 1)) rfl rfl) <|
   ev_a (ok_obj X hP hR1 hR2 (by decide +kernel : decode cX13_init 1 = .ok (.invokespecial 1, 3)) ev_w1353 ev_w115 ev_w116 rfl) <|
   ev_a (ok_no) <|
   ev_a (ok_no) <|
   ev_a (ok_ald_n X hP (by decide +kernel : decode cX13_init 4 = .ok (.aload_n 0, 1)) rfl rfl) <|
   ev_a (ok_psh_bipush X hP (by decide +kernel : decode cX13_init 5 = .ok (.bipush 6, 2)) rfl) <|
   ev_a (ok_no) <|
   ev_a (ok_newarray X hP hR (by decide +kernel : decode cX13_init 7 = .ok (.newarray .int, 2)) (Or.inl ⟨rfl, rfl, rfl⟩) ev_w136 rfl) <|
   ev_a (ok_no) <|
   ev_a (ok_dup X hP (by decide +kernel : decode cX13_init 9 = .ok (.dup, 1)) rfl) <|
   ev_a (ok_psh_iconst X hP (by decide +kernel : decode cX13_init 10 = .ok (.iconst 0, 1)) rfl) <|
   ev_a (ok_psh_iconst X hP (by decide +kernel : decode cX13_init 11 = .ok (.iconst 0, 1)) rfl) <|
   ev_a (ok_iastores X hP (by decide +kernel : decode cX13_init 12 = .ok (.iastore, 1)) rfl) <|
   ev_a (ok_dup X hP (by decide +kernel : decode cX13_init 13 = .ok (.dup, 1)) rfl) <|
   ev_a (ok_psh_iconst X hP (by decide +kernel : decode cX13_init 14 = .ok (.iconst 1, 1)) rfl) <|
   ev_a (ok_psh_iconst X hP (by decide +kernel : decode cX13_init 15 = .ok (.iconst 1, 1)) rfl) <| ev_a0) <|
  ev_b (
   ev_a (ok_iastores X hP (by decide +kernel : decode cX13_init 16 = .ok (.iastore, 1)) rfl) <|
   ev_a (ok_dup X hP (by decide +kernel : decode cX13_init 17 = .ok (.dup, 1)) rfl) <|
   ev_a (ok_psh_iconst X hP (by decide +kernel : decode cX13_init 18 = .ok (.iconst 2, 1)) rfl) <|
   ev_a (ok_psh_iconst X hP (by decide +kernel : decode cX13_init 19 = .ok (.iconst 2, 1)) rfl) <|
   ev_a (ok_iastores X hP (by decide +kernel : decode cX13_init 20 = .ok (.iastore, 1)) rfl) <|
   ev_a (ok_dup X hP (by decide +kernel : decode cX13_init 21 = .ok (.dup, 1)) rfl) <|
   ev_a (ok_psh_iconst X hP (by decide +kernel : decode cX13_init 22 = .ok (.iconst 3, 1)) rfl) <|
   ev_a (ok_psh_iconst X hP (by decide +kernel : decode cX13_init 23 = .ok (.iconst 3, 1)) rfl) <|
   ev_a (ok_iastores X hP (by decide +kernel : decode cX13_init 24 = .ok (.iastore, 1)) rfl) <|
   ev_a (ok_dup X hP (by decide +kernel : decode cX13_init 25 = .ok (.dup, 1)) rfl) <|
   ev_a (ok_psh_iconst X hP (by decide +kernel : decode cX13_init 26 = .ok (.iconst 4, 1)) rfl) <|
   ev_a (ok_psh_iconst X hP (by decide +kernel : decode cX13_init 27 = .ok (.iconst 4, 1)) rfl) <|
   ev_a (ok_iastores X hP (by decide +kernel : decode cX13_init 28 = .ok (.iastore, 1)) rfl) <|
   ev_a (ok_dup X hP (by decide +kernel : decode cX13_init 29 = .ok (.dup, 1)) rfl) <|
   ev_a (ok_psh_iconst X hP (by decide +kernel : decode cX13_init 30 = .ok (.iconst 5, 1)) rfl) <|
   ev_a (ok_psh_iconst X hP (by decide +kernel : decode cX13_init 31 = .ok (.iconst 5, 1)) rfl) <| ev_a0) <|
  ev_b (
   ev_a (ok_iastores X hP (by decide +kernel : decode cX13_init 32 = .ok (.iastore, 1)) rfl) <|
   ev_a (ok_putF X hP hin2 (ci := 18) (kf := 1) (T := TX13) tyX13 (by decide +kernel : decode cX13_init 33 = .ok (.putfield 7, 3)) rfl ev_in18 tyX13_ok nmX13 (by decide) ev_w1384 (Or.inl rfl) rfl rfl rfl rfl) <|
   ev_a (ok_no) <|
   ev_a (ok_no) <|
   ev_a (ok_ald_n X hP (by decide +kernel : decode cX13_init 36 = .ok (.aload_n 0, 1)) rfl rfl) <|
   ev_a (ok_new X hP hR (ci := 4) (N := 3) (T := TJx4a65c) tyJx4a65c (by decide +kernel : decode cX13_init 37 = .ok (.new 13, 3)) rfl ev_in4 tyJx4a65c_ok ev_w1354 ev_w1355 ev_w85 (by decide +kernel) rfl ⟨rfl, by decide⟩ rfl) <|
   ev_a (ok_no) <|
   ev_a (ok_no) <|
   ev_a (ok_dup X hP (by decide +kernel : decode cX13_init 40 = .ok (.dup, 1)) rfl) <|
   ev_a (ok_invI X hP hR hd2 hcf ev_y10 (by decide +kernel : decode cX13_init 41 = .ok (.invokespecial 15, 3)) ev_w1358 ev_w1356 ev_w1357 ev_w85 rfl ev_dn10 (by decide) rfl) <|
   ev_a (ok_no) <|
   ev_a (ok_no) <|
   ev_a (ok_putF X hP hin2 (ci := 18) (kf := 3) (T := TX13) tyX13 (by decide +kernel : decode cX13_init 44 = .ok (.putfield 16, 3)) rfl ev_in18 tyX13_ok nmX13 (by decide) ev_w1386 (Or.inl rfl) rfl rfl rfl rfl) <|
   ev_a (ok_no) <|
   ev_a (ok_no) <|
   ev_a (ok_ald_n X hP (by decide +kernel : decode cX13_init 47 = .ok (.aload_n 0, 1)) rfl rfl) <| ev_a0) <|
  ev_b (
   ev_a (ok_new X hP hR (ci := 4) (N := 3) (T := TJx4a65c) tyJx4a65c (by decide +kernel : decode cX13_init 48 = .ok (.new 13, 3)) rfl ev_in4 tyJx4a65c_ok ev_w1354 ev_w1355 ev_w85 (by decide +kernel) rfl ⟨rfl, by decide⟩ rfl) <|
   ev_a (ok_no) <|
   ev_a (ok_no) <|
   ev_a (ok_dup X hP (by decide +kernel : decode cX13_init 51 = .ok (.dup, 1)) rfl) <|
   ev_a (ok_invI X hP hR hd2 hcf ev_y10 (by decide +kernel : decode cX13_init 52 = .ok (.invokespecial 15, 3)) ev_w1358 ev_w1356 ev_w1357 ev_w85 rfl ev_dn10 (by decide) rfl) <|
   ev_a (ok_no) <|
   ev_a (ok_no) <|
   ev_a (ok_putF X hP hin2 (ci := 18) (kf := 4) (T := TX13) tyX13 (by decide +kernel : decode cX13_init 55 = .ok (.putfield 20, 3)) rfl ev_in18 tyX13_ok nmX13 (by decide) ev_w1387 (Or.inl rfl) rfl rfl rfl rfl) <|
   ev_a (ok_no) <|
   ev_a (ok_no) <|
   ev_a (ok_ald_n X hP (by decide +kernel : decode cX13_init 58 = .ok (.aload_n 0, 1)) rfl rfl) <|
   ev_a (ok_new X hP hR (ci := 4) (N := 3) (T := TJx4a65c) tyJx4a65c (by decide +kernel : decode cX13_init 59 = .ok (.new 13, 3)) rfl ev_in4 tyJx4a65c_ok ev_w1354 ev_w1355 ev_w85 (by decide +kernel) rfl ⟨rfl, by decide⟩ rfl) <|
   ev_a (ok_no) <|
   ev_a (ok_no) <|
   ev_a (ok_dup X hP (by decide +kernel : decode cX13_init 62 = .ok (.dup, 1)) rfl) <|
   ev_a (ok_invI X hP hR hd2 hcf ev_y10 (by decide +kernel : decode cX13_init 63 = .ok (.invokespecial 15, 3)) ev_w1358 ev_w1356 ev_w1357 ev_w85 rfl ev_dn10 (by decide) rfl) <| ev_a0) <|
  ev_b (
   ev_a (ok_no) <|
   ev_a (ok_no) <|
   ev_a (ok_putF X hP hin2 (ci := 18) (kf := 5) (T := TX13) tyX13 (by decide +kernel : decode cX13_init 66 = .ok (.putfield 23, 3)) rfl ev_in18 tyX13_ok nmX13 (by decide) ev_w1388 (Or.inl rfl) rfl rfl rfl rfl) <|
   ev_a (ok_no) <|
   ev_a (ok_no) <|
   ev_a (ok_ald_n X hP (by decide +kernel : decode cX13_init 69 = .ok (.aload_n 0, 1)) rfl rfl) <|
   ev_a (ok_new X hP hR (ci := 4) (N := 3) (T := TJx4a65c) tyJx4a65c (by decide +kernel : decode cX13_init 70 = .ok (.new 13, 3)) rfl ev_in4 tyJx4a65c_ok ev_w1354 ev_w1355 ev_w85 (by decide +kernel) rfl ⟨rfl, by decide⟩ rfl) <|
   ev_a (ok_no) <|
   ev_a (ok_no) <|
   ev_a (ok_dup X hP (by decide +kernel : decode cX13_init 73 = .ok (.dup, 1)) rfl) <|
   ev_a (ok_invI X hP hR hd2 hcf ev_y10 (by decide +kernel : decode cX13_init 74 = .ok (.invokespecial 15, 3)) ev_w1358 ev_w1356 ev_w1357 ev_w85 rfl ev_dn10 (by decide) rfl) <|
   ev_a (ok_no) <|
   ev_a (ok_no) <|
   ev_a (ok_putF X hP hin2 (ci := 18) (kf := 6) (T := TX13) tyX13 (by decide +kernel : decode cX13_init 77 = .ok (.putfield 26, 3)) rfl ev_in18 tyX13_ok nmX13 (by decide) ev_w1389 (Or.inl rfl) rfl rfl rfl rfl) <|
   ev_a (ok_no) <|
   ev_a (ok_no) <| ev_a0) <|
  ev_b (
   ev_a (ok_ald_n X hP (by decide +kernel : decode cX13_init 80 = .ok (.aload_n 0, 1)) rfl rfl) <|
   ev_a (ok_psh_iconst X hP (by decide +kernel : decode cX13_init 81 = .ok (.iconst (-1), 1)) rfl) <|
   ev_a (ok_put X hP (ci := 18) (kf := 7) (T := TX13) tyX13 (by decide +kernel : decode cX13_init 82 = .ok (.putfield 29, 3)) rfl ev_in18 tyX13_ok nmX13 (by decide) ev_w1390 (Or.inl rfl) rfl rfl rfl) <|
   ev_a (ok_no) <|
   ev_a (ok_no) <|
   ev_a (ok_return X hP hQ hfin rfl (by decide +kernel : decode cX13_init 85 = .ok (.return_, 1))) <| ev_a0) <|
  ev_b0
set_option maxRecDepth 100000 in
theorem ev_s46 {l : Launch} {d : Nat} {cf : Nat → List Value → ev_W → Option ev_R} {p : Program} {e : Env} {R : Room} {s : State} {m : MethodId} {args : Array Value} {below : List Frame} {meth : Method} {c : Code} {Q : State → Prop} {D : va_G} {G : Nat → ClassId} {ad : Nat → Nat} {A : Nat → Prop} {z wE nE : Nat} {P : Nat → List Value → List Value → ev_W → Nat → Prop} {α : Type} {r : α} {fin : Option Value → ev_W → Nat → Option α} (X : ev_X cX13_is 3 yX13_is.cls (some FieldType.boolean) p s m args meth c D G ad A z) (hP : ev_PP p l e R s m args below meth c Q 3 D G ad A z wE nE P) (hR : wE - z ≤ R.cells ∧ nE ≤ R.slots) (hd2 : d + 1 ≤ R.frames ∧ 64 * (d + 1) ≤ R.locals) (hR1 : 1 ≤ R.frames) (hR2 : 21 ≤ R.locals) (hcf : ev_cf l ev_ys d cf) {Qc : Array Value → State → Outcome → State → Prop} (hQ : Q = MQ below Qc args s (wE - z) nE A) (hfin : ∀ v w n, fin v w n = some r → w.length = wE ∧ n = nE ∧ ∀ H locs, ev_H D G ad A w H → va_S A s.heap H locs → ∀ t : State, t.heap = H → s.WarmedH t.vm → Qc args s (.returned (v.map (ev_v ad))) t) : ev_all2 (ev_ok P r) 0 (ev_o46 cf fin) :=
  ev_b (
   ev_a (ok_ild_n X hP (by decide +kernel : decode cX13_is 0 = .ok (.iload_n 0, 1)) rfl rfl) <|
   ev_a (ok_ild_n X hP (by decide +kernel : decode cX13_is 1 = .ok (.iload_n 1, 1)) rfl rfl) <|
   ev_a (ok_icmp_lt X hP (by decide +kernel : decode cX13_is 2 = .ok (.if_icmp .lt 12, 3)) (by decide) rfl) <|
   ev_a (ok_no) <|
   ev_a (ok_no) <|
   ev_a (ok_ild_n X hP (by decide +kernel : decode cX13_is 5 = .ok (.iload_n 0, 1)) rfl rfl) <|
   ev_a (ok_ild_n X hP (by decide +kernel : decode cX13_is 6 = .ok (.iload_n 2, 1)) rfl rfl) <|
   ev_a (ok_icmp_gt X hP (by decide +kernel : decode cX13_is 7 = .ok (.if_icmp .gt 7, 3)) (by decide) rfl) <|
   ev_a (ok_no) <|
   ev_a (ok_no) <|
   ev_a (ok_psh_iconst X hP (by decide +kernel : decode cX13_is 10 = .ok (.iconst 1, 1)) rfl) <|
   ev_a (ok_jmp X hP (by decide +kernel : decode cX13_is 11 = .ok (.goto 4, 3)) (by decide)) <|
   ev_a (ok_no) <|
   ev_a (ok_no) <|
   ev_a (ok_psh_iconst X hP (by decide +kernel : decode cX13_is 14 = .ok (.iconst 0, 1)) rfl) <|
   ev_a (ok_zreturn X hP hQ hfin rfl (by decide +kernel : decode cX13_is 15 = .ok (.ireturn, 1))) <| ev_a0) <|
  ev_b0
set_option maxRecDepth 100000 in
theorem ev_s47 {l : Launch} {d : Nat} {cf : Nat → List Value → ev_W → Option ev_R} {p : Program} {e : Env} {R : Room} {s : State} {m : MethodId} {args : Array Value} {below : List Frame} {meth : Method} {c : Code} {Q : State → Prop} {D : va_G} {G : Nat → ClassId} {ad : Nat → Nat} {A : Nat → Prop} {z wE nE : Nat} {P : Nat → List Value → List Value → ev_W → Nat → Prop} {α : Type} {r : α} {fin : Option Value → ev_W → Nat → Option α} (X : ev_X cX13_isTriple 1 yX13_isTriple.cls (some FieldType.boolean) p s m args meth c D G ad A z) (hP : ev_PP p l e R s m args below meth c Q 1 D G ad A z wE nE P) (hR : wE - z ≤ R.cells ∧ nE ≤ R.slots) (hd2 : d + 1 ≤ R.frames ∧ 64 * (d + 1) ≤ R.locals) (hR1 : 1 ≤ R.frames) (hR2 : 21 ≤ R.locals) (hcf : ev_cf l ev_ys d cf) {Qc : Array Value → State → Outcome → State → Prop} (hQ : Q = MQ below Qc args s (wE - z) nE A) (hfin : ∀ v w n, fin v w n = some r → w.length = wE ∧ n = nE ∧ ∀ H locs, ev_H D G ad A w H → va_S A s.heap H locs → ∀ t : State, t.heap = H → s.WarmedH t.vm → Qc args s (.returned (v.map (ev_v ad))) t) : ev_all2 (ev_ok P r) 0 (ev_o47 cf fin) :=
  ev_b (
   ev_a (ok_ild_n X hP (by decide +kernel : decode cX13_isTriple 0 = .ok (.iload_n 0, 1)) rfl rfl) <|
   ev_a (ok_psh_iconst X hP (by decide +kernel : decode cX13_isTriple 1 = .ok (.iconst 0, 1)) rfl) <|
   ev_a (ok_psh_sipush X hP (by decide +kernel : decode cX13_isTriple 2 = .ok (.sipush 555, 3)) rfl) <|
   ev_a (ok_no) <|
   ev_a (ok_no) <|
   ev_a (ok_invS X hP hR hd2 hcf ev_y46 (by decide +kernel : decode cX13_isTriple 5 = .ok (.invokestatic 36, 3)) ev_w1433 ev_w1431 ev_w1432 ev_w82 ev_dn46 (by decide) rfl) <|
   ev_a (ok_no) <|
   ev_a (ok_no) <|
   ev_a (ok_if_eq X hP (by decide +kernel : decode cX13_isTriple 8 = .ok (.ifCond .eq 37, 3)) (by decide) rfl) <|
   ev_a (ok_no) <|
   ev_a (ok_no) <|
   ev_a (ok_ild_n X hP (by decide +kernel : decode cX13_isTriple 11 = .ok (.iload_n 0, 1)) rfl rfl) <|
   ev_a (ok_psh_iconst X hP (by decide +kernel : decode cX13_isTriple 12 = .ok (.iconst 0, 1)) rfl) <|
   ev_a (ok_invS X hP hR hd2 hcf ev_y43 (by decide +kernel : decode cX13_isTriple 13 = .ok (.invokestatic 40, 3)) ev_w1436 ev_w1434 ev_w1435 ev_w82 ev_dn43 (by decide) rfl) <|
   ev_a (ok_no) <|
   ev_a (ok_no) <| ev_a0) <|
  ev_b (
   ev_a (ok_psh_bipush X hP (by decide +kernel : decode cX13_isTriple 16 = .ok (.bipush 6, 2)) rfl) <|
   ev_a (ok_no) <|
   ev_a (ok_icmp_ge X hP (by decide +kernel : decode cX13_isTriple 18 = .ok (.if_icmp .ge 27, 3)) (by decide) rfl) <|
   ev_a (ok_no) <|
   ev_a (ok_no) <|
   ev_a (ok_ild_n X hP (by decide +kernel : decode cX13_isTriple 21 = .ok (.iload_n 0, 1)) rfl rfl) <|
   ev_a (ok_psh_iconst X hP (by decide +kernel : decode cX13_isTriple 22 = .ok (.iconst 1, 1)) rfl) <|
   ev_a (ok_invS X hP hR hd2 hcf ev_y43 (by decide +kernel : decode cX13_isTriple 23 = .ok (.invokestatic 40, 3)) ev_w1436 ev_w1434 ev_w1435 ev_w82 ev_dn43 (by decide) rfl) <|
   ev_a (ok_no) <|
   ev_a (ok_no) <|
   ev_a (ok_psh_bipush X hP (by decide +kernel : decode cX13_isTriple 26 = .ok (.bipush 6, 2)) rfl) <|
   ev_a (ok_no) <|
   ev_a (ok_icmp_ge X hP (by decide +kernel : decode cX13_isTriple 28 = .ok (.if_icmp .ge 17, 3)) (by decide) rfl) <|
   ev_a (ok_no) <|
   ev_a (ok_no) <|
   ev_a (ok_ild_n X hP (by decide +kernel : decode cX13_isTriple 31 = .ok (.iload_n 0, 1)) rfl rfl) <| ev_a0) <|
  ev_b (
   ev_a (ok_psh_iconst X hP (by decide +kernel : decode cX13_isTriple 32 = .ok (.iconst 2, 1)) rfl) <|
   ev_a (ok_invS X hP hR hd2 hcf ev_y43 (by decide +kernel : decode cX13_isTriple 33 = .ok (.invokestatic 40, 3)) ev_w1436 ev_w1434 ev_w1435 ev_w82 ev_dn43 (by decide) rfl) <|
   ev_a (ok_no) <|
   ev_a (ok_no) <|
   ev_a (ok_psh_bipush X hP (by decide +kernel : decode cX13_isTriple 36 = .ok (.bipush 6, 2)) rfl) <|
   ev_a (ok_no) <|
   ev_a (ok_icmp_ge X hP (by decide +kernel : decode cX13_isTriple 38 = .ok (.if_icmp .ge 7, 3)) (by decide) rfl) <|
   ev_a (ok_no) <|
   ev_a (ok_no) <|
   ev_a (ok_psh_iconst X hP (by decide +kernel : decode cX13_isTriple 41 = .ok (.iconst 1, 1)) rfl) <|
   ev_a (ok_jmp X hP (by decide +kernel : decode cX13_isTriple 42 = .ok (.goto 4, 3)) (by decide)) <|
   ev_a (ok_no) <|
   ev_a (ok_no) <|
   ev_a (ok_psh_iconst X hP (by decide +kernel : decode cX13_isTriple 45 = .ok (.iconst 0, 1)) rfl) <|
   ev_a (ok_zreturn X hP hQ hfin rfl (by decide +kernel : decode cX13_isTriple 46 = .ok (.ireturn, 1))) <| ev_a0) <|
  ev_b0
set_option maxRecDepth 100000 in
theorem ev_s48 {l : Launch} {d : Nat} {cf : Nat → List Value → ev_W → Option ev_R} {p : Program} {e : Env} {R : Room} {s : State} {m : MethodId} {args : Array Value} {below : List Frame} {meth : Method} {c : Code} {Q : State → Prop} {D : va_G} {G : Nat → ClassId} {ad : Nat → Nat} {A : Nat → Prop} {z wE nE : Nat} {P : Nat → List Value → List Value → ev_W → Nat → Prop} {α : Type} {r : α} {fin : Option Value → ev_W → Nat → Option α} (X : ev_X cX13_newBinding 0 yX13_newBinding.cls (some (FieldType.array FieldType.int)) p s m args meth c D G ad A z) (hP : ev_PP p l e R s m args below meth c Q 0 D G ad A z wE nE P) (hR : wE - z ≤ R.cells ∧ nE ≤ R.slots) (hd2 : d + 1 ≤ R.frames ∧ 64 * (d + 1) ≤ R.locals) (hR1 : 1 ≤ R.frames) (hR2 : 21 ≤ R.locals) (hcf : ev_cf l ev_ys d cf) {Qc : Array Value → State → Outcome → State → Prop} (hQ : Q = MQ below Qc args s (wE - z) nE A) (hfin : ∀ v w n, fin v w n = some r → w.length = wE ∧ n = nE ∧ ∀ H locs, ev_H D G ad A w H → va_S A s.heap H locs → ∀ t : State, t.heap = H → s.WarmedH t.vm → Qc args s (.returned (v.map (ev_v ad))) t) : ev_all2 (ev_ok P r) 0 (ev_o48 cf fin) :=
  ev_b (
   ev_a (ok_psh_iconst X hP (by decide +kernel : decode cX13_newBinding 0 = .ok (.iconst 4, 1)) rfl) <|
   ev_a (ok_newarray X hP hR (by decide +kernel : decode cX13_newBinding 1 = .ok (.newarray .int, 2)) (Or.inl ⟨rfl, rfl, rfl⟩) ev_w136 rfl) <|
   ev_a (ok_no) <|
   ev_a (ok_dup X hP (by decide +kernel : decode cX13_newBinding 3 = .ok (.dup, 1)) rfl) <|
   ev_a (ok_psh_iconst X hP (by decide +kernel : decode cX13_newBinding 4 = .ok (.iconst 0, 1)) rfl) <|
   ev_a (ok_psh_bipush X hP (by decide +kernel : decode cX13_newBinding 5 = .ok (.bipush 9, 2)) rfl) <|
   ev_a (ok_no) <|
   ev_a (ok_iastores X hP (by decide +kernel : decode cX13_newBinding 7 = .ok (.iastore, 1)) rfl) <|
   ev_a (ok_dup X hP (by decide +kernel : decode cX13_newBinding 8 = .ok (.dup, 1)) rfl) <|
   ev_a (ok_psh_iconst X hP (by decide +kernel : decode cX13_newBinding 9 = .ok (.iconst 1, 1)) rfl) <|
   ev_a (ok_psh_bipush X hP (by decide +kernel : decode cX13_newBinding 10 = .ok (.bipush 9, 2)) rfl) <|
   ev_a (ok_no) <|
   ev_a (ok_iastores X hP (by decide +kernel : decode cX13_newBinding 12 = .ok (.iastore, 1)) rfl) <|
   ev_a (ok_dup X hP (by decide +kernel : decode cX13_newBinding 13 = .ok (.dup, 1)) rfl) <|
   ev_a (ok_psh_iconst X hP (by decide +kernel : decode cX13_newBinding 14 = .ok (.iconst 2, 1)) rfl) <|
   ev_a (ok_psh_bipush X hP (by decide +kernel : decode cX13_newBinding 15 = .ok (.bipush 9, 2)) rfl) <| ev_a0) <|
  ev_b (
   ev_a (ok_no) <|
   ev_a (ok_iastores X hP (by decide +kernel : decode cX13_newBinding 17 = .ok (.iastore, 1)) rfl) <|
   ev_a (ok_dup X hP (by decide +kernel : decode cX13_newBinding 18 = .ok (.dup, 1)) rfl) <|
   ev_a (ok_psh_iconst X hP (by decide +kernel : decode cX13_newBinding 19 = .ok (.iconst 3, 1)) rfl) <|
   ev_a (ok_psh_bipush X hP (by decide +kernel : decode cX13_newBinding 20 = .ok (.bipush 9, 2)) rfl) <|
   ev_a (ok_no) <|
   ev_a (ok_iastores X hP (by decide +kernel : decode cX13_newBinding 22 = .ok (.iastore, 1)) rfl) <|
   ev_a (ok_areturn X hP hQ hfin rfl (Or.inr ⟨_, rfl⟩) (by decide +kernel : decode cX13_newBinding 23 = .ok (.areturn, 1))) <| ev_a0) <|
  ev_b0
set_option maxRecDepth 100000 in
theorem ev_s49 {l : Launch} {d : Nat} {cf : Nat → List Value → ev_W → Option ev_R} {p : Program} {e : Env} {R : Room} {s : State} {m : MethodId} {args : Array Value} {below : List Frame} {meth : Method} {c : Code} {Q : State → Prop} {D : va_G} {G : Nat → ClassId} {ad : Nat → Nat} {A : Nat → Prop} {z wE nE : Nat} {P : Nat → List Value → List Value → ev_W → Nat → Prop} {α : Type} {r : α} {fin : Option Value → ev_W → Nat → Option α} (X : ev_X cX13_place 6 yX13_place.cls (some FieldType.int) p s m args meth c D G ad A z) (hP : ev_PP p l e R s m args below meth c Q 6 D G ad A z wE nE P) (hR : wE - z ≤ R.cells ∧ nE ≤ R.slots) (hd2 : d + 1 ≤ R.frames ∧ 64 * (d + 1) ≤ R.locals) (hR1 : 1 ≤ R.frames) (hR2 : 21 ≤ R.locals) (hcf : ev_cf l ev_ys d cf) {Qc : Array Value → State → Outcome → State → Prop} (hQ : Q = MQ below Qc args s (wE - z) nE A) (hfin : ∀ v w n, fin v w n = some r → w.length = wE ∧ n = nE ∧ ∀ H locs, ev_H D G ad A w H → va_S A s.heap H locs → ∀ t : State, t.heap = H → s.WarmedH t.vm → Qc args s (.returned (v.map (ev_v ad))) t) : ev_all2 (ev_ok P r) 0 (ev_o49 cf fin) :=
  ev_b (
   ev_a (ok_psh_iconst X hP (by decide +kernel : decode cX13_place 0 = .ok (.iconst 0, 1)) rfl) <|
   ev_a (ok_ist_n X hP (by decide +kernel : decode cX13_place 1 = .ok (.istore_n 3, 1)) rfl (by decide) rfl) <|
   ev_a (ok_psh_iconst X hP (by decide +kernel : decode cX13_place 2 = .ok (.iconst 0, 1)) rfl) <|
   ev_a (ok_ist X hP (by decide +kernel : decode cX13_place 3 = .ok (.istore 4, 2)) (by decide) rfl) <|
   ev_a (ok_no) <|
   ev_a (ok_ild X hP (by decide +kernel : decode cX13_place 5 = .ok (.iload 4, 2)) rfl) <|
   ev_a (ok_no) <|
   ev_a (ok_psh_iconst X hP (by decide +kernel : decode cX13_place 7 = .ok (.iconst 3, 1)) rfl) <|
   ev_a (ok_icmp_ge X hP (by decide +kernel : decode cX13_place 8 = .ok (.if_icmp .ge 47, 3)) (by decide) rfl) <|
   ev_a (ok_no) <|
   ev_a (ok_no) <|
   ev_a (ok_ild_n X hP (by decide +kernel : decode cX13_place 11 = .ok (.iload_n 1, 1)) rfl rfl) <|
   ev_a (ok_ild X hP (by decide +kernel : decode cX13_place 12 = .ok (.iload 4, 2)) rfl) <|
   ev_a (ok_no) <|
   ev_a (ok_invS X hP hR hd2 hcf ev_y43 (by decide +kernel : decode cX13_place 14 = .ok (.invokestatic 40, 3)) ev_w1436 ev_w1434 ev_w1435 ev_w82 ev_dn43 (by decide) rfl) <|
   ev_a (ok_no) <| ev_a0) <|
  ev_b (
   ev_a (ok_no) <|
   ev_a (ok_ist X hP (by decide +kernel : decode cX13_place 17 = .ok (.istore 5, 2)) (by decide) rfl) <|
   ev_a (ok_no) <|
   ev_a (ok_psh_bipush X hP (by decide +kernel : decode cX13_place 19 = .ok (.bipush 6, 2)) rfl) <|
   ev_a (ok_no) <|
   ev_a (ok_ild_n X hP (by decide +kernel : decode cX13_place 21 = .ok (.iload_n 3, 1)) rfl rfl) <|
   ev_a (ok_imul X hP (by decide +kernel : decode cX13_place 22 = .ok (.imul, 1)) rfl) <|
   ev_a (ok_ild X hP (by decide +kernel : decode cX13_place 23 = .ok (.iload 5, 2)) rfl) <|
   ev_a (ok_no) <|
   ev_a (ok_psh_bipush X hP (by decide +kernel : decode cX13_place 25 = .ok (.bipush 6, 2)) rfl) <|
   ev_a (ok_no) <|
   ev_a (ok_icmp_ge X hP (by decide +kernel : decode cX13_place 27 = .ok (.if_icmp .ge 13, 3)) (by decide) rfl) <|
   ev_a (ok_no) <|
   ev_a (ok_no) <|
   ev_a (ok_ald_n X hP (by decide +kernel : decode cX13_place 30 = .ok (.aload_n 0, 1)) rfl rfl) <|
   ev_a (ok_get X hP (ci := 18) (kf := 1) (T := TX13) (by decide +kernel : decode cX13_place 31 = .ok (.getfield 7, 3)) rfl ev_in18 (by decide) ev_w1384 (Or.inl rfl) rfl) <| ev_a0) <|
  ev_b (
   ev_a (ok_no) <|
   ev_a (ok_no) <|
   ev_a (ok_ild X hP (by decide +kernel : decode cX13_place 34 = .ok (.iload 5, 2)) rfl) <|
   ev_a (ok_no) <|
   ev_a (ok_ialoads X hP (by decide +kernel : decode cX13_place 36 = .ok (.iaload, 1)) rfl) <|
   ev_a (ok_jmp X hP (by decide +kernel : decode cX13_place 37 = .ok (.goto 10, 3)) (by decide)) <|
   ev_a (ok_no) <|
   ev_a (ok_no) <|
   ev_a (ok_ald_n X hP (by decide +kernel : decode cX13_place 40 = .ok (.aload_n 2, 1)) rfl rfl) <|
   ev_a (ok_ild X hP (by decide +kernel : decode cX13_place 41 = .ok (.iload 5, 2)) rfl) <|
   ev_a (ok_no) <|
   ev_a (ok_psh_bipush X hP (by decide +kernel : decode cX13_place 43 = .ok (.bipush 6, 2)) rfl) <|
   ev_a (ok_no) <|
   ev_a (ok_isub X hP (by decide +kernel : decode cX13_place 45 = .ok (.isub, 1)) rfl) <|
   ev_a (ok_ialoads X hP (by decide +kernel : decode cX13_place 46 = .ok (.iaload, 1)) rfl) <|
   ev_a (ok_iadd X hP (by decide +kernel : decode cX13_place 47 = .ok (.iadd, 1)) rfl) <| ev_a0) <|
  ev_b (
   ev_a (ok_ist_n X hP (by decide +kernel : decode cX13_place 48 = .ok (.istore_n 3, 1)) rfl (by decide) rfl) <|
   ev_a (ok_inc X hP (by decide +kernel : decode cX13_place 49 = .ok (.iinc 4 1, 3)) (by decide) rfl) <|
   ev_a (ok_no) <|
   ev_a (ok_no) <|
   ev_a (ok_jmp X hP (by decide +kernel : decode cX13_place 52 = .ok (.goto (-47), 3)) (by decide)) <|
   ev_a (ok_no) <|
   ev_a (ok_no) <|
   ev_a (ok_ild_n X hP (by decide +kernel : decode cX13_place 55 = .ok (.iload_n 3, 1)) rfl rfl) <|
   ev_a (ok_ireturn X hP hQ hfin rfl (by decide +kernel : decode cX13_place 56 = .ok (.ireturn, 1))) <| ev_a0) <|
  ev_b0
set_option maxRecDepth 100000 in
theorem ev_s50 {l : Launch} {d : Nat} {cf : Nat → List Value → ev_W → Option ev_R} {p : Program} {e : Env} {R : Room} {s : State} {m : MethodId} {args : Array Value} {below : List Frame} {meth : Method} {c : Code} {Q : State → Prop} {D : va_G} {G : Nat → ClassId} {ad : Nat → Nat} {A : Nat → Prop} {z wE nE : Nat} {P : Nat → List Value → List Value → ev_W → Nat → Prop} {α : Type} {r : α} {fin : Option Value → ev_W → Nat → Option α} (X : ev_X cX13_place_ 2 yX13_place_.cls (some FieldType.int) p s m args meth c D G ad A z) (hP : ev_PP p l e R s m args below meth c Q 2 D G ad A z wE nE P) (hR : wE - z ≤ R.cells ∧ nE ≤ R.slots) (hd2 : d + 1 ≤ R.frames ∧ 64 * (d + 1) ≤ R.locals) (hR1 : 1 ≤ R.frames) (hR2 : 21 ≤ R.locals) (hcf : ev_cf l ev_ys d cf) {Qc : Array Value → State → Outcome → State → Prop} (hQ : Q = MQ below Qc args s (wE - z) nE A) (hfin : ∀ v w n, fin v w n = some r → w.length = wE ∧ n = nE ∧ ∀ H locs, ev_H D G ad A w H → va_S A s.heap H locs → ∀ t : State, t.heap = H → s.WarmedH t.vm → Qc args s (.returned (v.map (ev_v ad))) t) : ev_all2 (ev_ok P r) 0 (ev_o50 cf fin) :=
  ev_b (
   ev_a (ok_ald_n X hP (by decide +kernel : decode cX13_place_ 0 = .ok (.aload_n 0, 1)) rfl rfl) <|
   ev_a (ok_ild_n X hP (by decide +kernel : decode cX13_place_ 1 = .ok (.iload_n 1, 1)) rfl rfl) <|
   ev_a (ok_invS X hP hR hd2 hcf ev_y48 (by decide +kernel : decode cX13_place_ 2 = .ok (.invokestatic 44, 3)) ev_w1597 ev_w1595 ev_w1596 ev_w82 ev_dn48 (by decide) rfl) <|
   ev_a (ok_no) <|
   ev_a (ok_no) <|
   ev_a (ok_invV X hP hR hd2 hcf (ci := 18) ev_y49 rfl (by decide +kernel : decode cX13_place_ 5 = .ok (.invokevirtual 48, 3)) ev_w1601 ev_w1598 ev_w1600 ev_w43 ev_w82 ⟨rfl, ev_dn49⟩ (by decide) rfl) <|
   ev_a (ok_no) <|
   ev_a (ok_no) <|
   ev_a (ok_ireturn X hP hQ hfin rfl (by decide +kernel : decode cX13_place_ 8 = .ok (.ireturn, 1))) <| ev_a0) <|
  ev_b0
set_option maxRecDepth 100000 in
theorem ev_s51 {l : Launch} {d : Nat} {cf : Nat → List Value → ev_W → Option ev_R} {p : Program} {e : Env} {R : Room} {s : State} {m : MethodId} {args : Array Value} {below : List Frame} {meth : Method} {c : Code} {Q : State → Prop} {D : va_G} {G : Nat → ClassId} {ad : Nat → Nat} {A : Nat → Prop} {z wE nE : Nat} {P : Nat → List Value → List Value → ev_W → Nat → Prop} {α : Type} {r : α} {fin : Option Value → ev_W → Nat → Option α} (X : ev_X cX13_tell 3 yX13_tell.cls (some FieldType.int) p s m args meth c D G ad A z) (hP : ev_PP p l e R s m args below meth c Q 3 D G ad A z wE nE P) (hR : wE - z ≤ R.cells ∧ nE ≤ R.slots) (hd2 : d + 1 ≤ R.frames ∧ 64 * (d + 1) ≤ R.locals) (hR1 : 1 ≤ R.frames) (hR2 : 21 ≤ R.locals) (hcf : ev_cf l ev_ys d cf) {Qc : Array Value → State → Outcome → State → Prop} (hQ : Q = MQ below Qc args s (wE - z) nE A) (hfin : ∀ v w n, fin v w n = some r → w.length = wE ∧ n = nE ∧ ∀ H locs, ev_H D G ad A w H → va_S A s.heap H locs → ∀ t : State, t.heap = H → s.WarmedH t.vm → Qc args s (.returned (v.map (ev_v ad))) t) : ev_all2 (ev_ok P r) 0 (ev_o51 cf fin) :=
  ev_b (
   ev_a (ok_ald_n X hP (by decide +kernel : decode cX13_tell 0 = .ok (.aload_n 0, 1)) rfl rfl) <|
   ev_a (ok_psh_iconst X hP (by decide +kernel : decode cX13_tell 1 = .ok (.iconst 0, 1)) rfl) <|
   ev_a (ok_put X hP (ci := 18) (kf := 0) (T := TX13) tyX13 (by decide +kernel : decode cX13_tell 2 = .ok (.putfield 33, 3)) rfl ev_in18 tyX13_ok nmX13 (by decide) ev_w1383 (Or.inl rfl) rfl rfl rfl) <|
   ev_a (ok_no) <|
   ev_a (ok_no) <|
   ev_a (ok_ild_n X hP (by decide +kernel : decode cX13_tell 5 = .ok (.iload_n 1, 1)) rfl rfl) <|
   ev_a (ok_invS X hP hR hd2 hcf ev_y47 (by decide +kernel : decode cX13_tell 6 = .ok (.invokestatic 56, 3)) ev_w1430 ev_w1428 ev_w1429 ev_w82 ev_dn47 (by decide) rfl) <|
   ev_a (ok_no) <|
   ev_a (ok_no) <|
   ev_a (ok_if_eq X hP (by decide +kernel : decode cX13_tell 9 = .ok (.ifCond .eq 13, 3)) (by decide) rfl) <|
   ev_a (ok_no) <|
   ev_a (ok_no) <|
   ev_a (ok_ild_n X hP (by decide +kernel : decode cX13_tell 12 = .ok (.iload_n 2, 1)) rfl rfl) <|
   ev_a (ok_psh_iconst X hP (by decide +kernel : decode cX13_tell 13 = .ok (.iconst 1, 1)) rfl) <|
   ev_a (ok_psh_bipush X hP (by decide +kernel : decode cX13_tell 14 = .ok (.bipush 9, 2)) rfl) <|
   ev_a (ok_no) <| ev_a0) <|
  ev_b (
   ev_a (ok_invS X hP hR hd2 hcf ev_y46 (by decide +kernel : decode cX13_tell 16 = .ok (.invokestatic 36, 3)) ev_w1433 ev_w1431 ev_w1432 ev_w82 ev_dn46 (by decide) rfl) <|
   ev_a (ok_no) <|
   ev_a (ok_no) <|
   ev_a (ok_if_ne X hP (by decide +kernel : decode cX13_tell 19 = .ok (.ifCond .ne 9, 3)) (by decide) rfl) <|
   ev_a (ok_no) <|
   ev_a (ok_no) <|
   ev_a (ok_ald_n X hP (by decide +kernel : decode cX13_tell 22 = .ok (.aload_n 0, 1)) rfl rfl) <|
   ev_a (ok_psh_iconst X hP (by decide +kernel : decode cX13_tell 23 = .ok (.iconst 1, 1)) rfl) <|
   ev_a (ok_no) <|
   ev_a (ok_no) <|
   ev_a (ok_no) <|
   ev_a (ok_ireturn X hP hQ hfin rfl (by decide +kernel : decode cX13_tell 27 = .ok (.ireturn, 1))) <|
   ev_a (ok_ald_n X hP (by decide +kernel : decode cX13_tell 28 = .ok (.aload_n 0, 1)) rfl rfl) <|
   ev_a (ok_get X hP (ci := 18) (kf := 4) (T := TX13) (by decide +kernel : decode cX13_tell 29 = .ok (.getfield 20, 3)) rfl ev_in18 (by decide) ev_w1387 (Or.inl rfl) rfl) <|
   ev_a (ok_no) <|
   ev_a (ok_no) <| ev_a0) <|
  ev_b (
   ev_a (ok_invV X hP hR hd2 hcf (ci := 4) ev_y12 rfl (by decide +kernel : decode cX13_tell 32 = .ok (.invokevirtual 63, 3)) ev_w1444 ev_w1441 ev_w1442 ev_w1443 ev_w85 ⟨rfl, ev_dn12⟩ (by decide) rfl) <|
   ev_a (ok_no) <|
   ev_a (ok_no) <|
   ev_a (ok_psh_bipush X hP (by decide +kernel : decode cX13_tell 35 = .ok (.bipush 12, 2)) rfl) <|
   ev_a (ok_no) <|
   ev_a (ok_icmp_ne X hP (by decide +kernel : decode cX13_tell 37 = .ok (.if_icmp .ne 9, 3)) (by decide) rfl) <|
   ev_a (ok_no) <|
   ev_a (ok_no) <|
   ev_a (ok_ald_n X hP (by decide +kernel : decode cX13_tell 40 = .ok (.aload_n 0, 1)) rfl rfl) <|
   ev_a (ok_psh_iconst X hP (by decide +kernel : decode cX13_tell 41 = .ok (.iconst 2, 1)) rfl) <|
   ev_a (ok_no) <|
   ev_a (ok_no) <|
   ev_a (ok_no) <|
   ev_a (ok_ireturn X hP hQ hfin rfl (by decide +kernel : decode cX13_tell 45 = .ok (.ireturn, 1))) <|
   ev_a (ok_ald_n X hP (by decide +kernel : decode cX13_tell 46 = .ok (.aload_n 0, 1)) rfl rfl) <|
   ev_a (ok_get X hP (ci := 18) (kf := 4) (T := TX13) (by decide +kernel : decode cX13_tell 47 = .ok (.getfield 20, 3)) rfl ev_in18 (by decide) ev_w1387 (Or.inl rfl) rfl) <| ev_a0) <|
  ev_b (
   ev_a (ok_no) <|
   ev_a (ok_no) <|
   ev_a (ok_psh_iconst X hP (by decide +kernel : decode cX13_tell 50 = .ok (.iconst 2, 1)) rfl) <|
   ev_a (ok_newarray X hP hR (by decide +kernel : decode cX13_tell 51 = .ok (.newarray .int, 2)) (Or.inl ⟨rfl, rfl, rfl⟩) ev_w136 rfl) <|
   ev_a (ok_no) <|
   ev_a (ok_dup X hP (by decide +kernel : decode cX13_tell 53 = .ok (.dup, 1)) rfl) <|
   ev_a (ok_psh_iconst X hP (by decide +kernel : decode cX13_tell 54 = .ok (.iconst 0, 1)) rfl) <|
   ev_a (ok_ild_n X hP (by decide +kernel : decode cX13_tell 55 = .ok (.iload_n 1, 1)) rfl rfl) <|
   ev_a (ok_iastores X hP (by decide +kernel : decode cX13_tell 56 = .ok (.iastore, 1)) rfl) <|
   ev_a (ok_dup X hP (by decide +kernel : decode cX13_tell 57 = .ok (.dup, 1)) rfl) <|
   ev_a (ok_psh_iconst X hP (by decide +kernel : decode cX13_tell 58 = .ok (.iconst 1, 1)) rfl) <|
   ev_a (ok_ild_n X hP (by decide +kernel : decode cX13_tell 59 = .ok (.iload_n 2, 1)) rfl rfl) <|
   ev_a (ok_iastores X hP (by decide +kernel : decode cX13_tell 60 = .ok (.iastore, 1)) rfl) <|
   ev_a (ok_invV X hP hR hd2 hcf (ci := 4) ev_y6 rfl (by decide +kernel : decode cX13_tell 61 = .ok (.invokevirtual 67, 3)) ev_w1448 ev_w1445 ev_w1446 ev_w1447 ev_w85 ⟨rfl, ev_dn6⟩ (by decide) rfl) <|
   ev_a (ok_no) <|
   ev_a (ok_no) <| ev_a0) <|
  ev_b (
   ev_a (ok_drop X hP (by decide +kernel : decode cX13_tell 64 = .ok (.pop, 1)) rfl) <|
   ev_a (ok_ald_n X hP (by decide +kernel : decode cX13_tell 65 = .ok (.aload_n 0, 1)) rfl rfl) <|
   ev_a (ok_get X hP (ci := 18) (kf := 4) (T := TX13) (by decide +kernel : decode cX13_tell 66 = .ok (.getfield 20, 3)) rfl ev_in18 (by decide) ev_w1387 (Or.inl rfl) rfl) <|
   ev_a (ok_no) <|
   ev_a (ok_no) <|
   ev_a (ok_invV X hP hR hd2 hcf (ci := 4) ev_y12 rfl (by decide +kernel : decode cX13_tell 69 = .ok (.invokevirtual 63, 3)) ev_w1444 ev_w1441 ev_w1442 ev_w1443 ev_w85 ⟨rfl, ev_dn12⟩ (by decide) rfl) <|
   ev_a (ok_no) <|
   ev_a (ok_no) <|
   ev_a (ok_ireturn X hP hQ hfin rfl (by decide +kernel : decode cX13_tell 72 = .ok (.ireturn, 1))) <| ev_a0) <|
  ev_b0
set_option maxRecDepth 100000 in
theorem ev_s52 {l : Launch} {d : Nat} {cf : Nat → List Value → ev_W → Option ev_R} {p : Program} {e : Env} {R : Room} {s : State} {m : MethodId} {args : Array Value} {below : List Frame} {meth : Method} {c : Code} {Q : State → Prop} {D : va_G} {G : Nat → ClassId} {ad : Nat → Nat} {A : Nat → Prop} {z wE nE : Nat} {P : Nat → List Value → List Value → ev_W → Nat → Prop} {α : Type} {r : α} {fin : Option Value → ev_W → Nat → Option α} (X : ev_X cX13_thrown 1 yX13_thrown.cls (some FieldType.int) p s m args meth c D G ad A z) (hP : ev_PP p l e R s m args below meth c Q 1 D G ad A z wE nE P) (hR : wE - z ≤ R.cells ∧ nE ≤ R.slots) (hd2 : d + 1 ≤ R.frames ∧ 64 * (d + 1) ≤ R.locals) (hR1 : 1 ≤ R.frames) (hR2 : 21 ≤ R.locals) (hcf : ev_cf l ev_ys d cf) {Qc : Array Value → State → Outcome → State → Prop} (hQ : Q = MQ below Qc args s (wE - z) nE A) (hfin : ∀ v w n, fin v w n = some r → w.length = wE ∧ n = nE ∧ ∀ H locs, ev_H D G ad A w H → va_S A s.heap H locs → ∀ t : State, t.heap = H → s.WarmedH t.vm → Qc args s (.returned (v.map (ev_v ad))) t) : ev_all2 (ev_ok P r) 0 (ev_o52 cf fin) :=
  ev_b (
   ev_a (ok_ald_n X hP (by decide +kernel : decode cX13_thrown 0 = .ok (.aload_n 0, 1)) rfl rfl) <|
   ev_a (ok_get X hP (ci := 18) (kf := 0) (T := TX13) (by decide +kernel : decode cX13_thrown 1 = .ok (.getfield 33, 3)) rfl ev_in18 (by decide) ev_w1383 (Or.inl rfl) rfl) <|
   ev_a (ok_no) <|
   ev_a (ok_no) <|
   ev_a (ok_ireturn X hP hQ hfin rfl (by decide +kernel : decode cX13_thrown 4 = .ok (.ireturn, 1))) <| ev_a0) <|
  ev_b0
set_option maxRecDepth 100000 in
theorem ev_s53 {l : Launch} {d : Nat} {cf : Nat → List Value → ev_W → Option ev_R} {p : Program} {e : Env} {R : Room} {s : State} {m : MethodId} {args : Array Value} {below : List Frame} {meth : Method} {c : Code} {Q : State → Prop} {D : va_G} {G : Nat → ClassId} {ad : Nat → Nat} {A : Nat → Prop} {z wE nE : Nat} {P : Nat → List Value → List Value → ev_W → Nat → Prop} {α : Type} {r : α} {fin : Option Value → ev_W → Nat → Option α} (X : ev_X cX13_told 7 yX13_told.cls (some (FieldType.array FieldType.boolean)) p s m args meth c D G ad A z) (hP : ev_PP p l e R s m args below meth c Q 7 D G ad A z wE nE P) (hR : wE - z ≤ R.cells ∧ nE ≤ R.slots) (hd2 : d + 1 ≤ R.frames ∧ 64 * (d + 1) ≤ R.locals) (hR1 : 1 ≤ R.frames) (hR2 : 21 ≤ R.locals) (hcf : ev_cf l ev_ys d cf) {Qc : Array Value → State → Outcome → State → Prop} (hQ : Q = MQ below Qc args s (wE - z) nE A) (hfin : ∀ v w n, fin v w n = some r → w.length = wE ∧ n = nE ∧ ∀ H locs, ev_H D G ad A w H → va_S A s.heap H locs → ∀ t : State, t.heap = H → s.WarmedH t.vm → Qc args s (.returned (v.map (ev_v ad))) t) : ev_all2 (ev_ok P r) 0 (ev_o53 cf fin) :=
  ev_b (
   ev_a (ok_psh_sipush X hP (by decide +kernel : decode cX13_told 0 = .ok (.sipush 216, 3)) rfl) <|
   ev_a (ok_no) <|
   ev_a (ok_no) <|
   ev_a (ok_newarray X hP hR (by decide +kernel : decode cX13_told 3 = .ok (.newarray .boolean, 2)) (Or.inr ⟨rfl, rfl, rfl⟩) ev_w1615 rfl) <|
   ev_a (ok_no) <|
   ev_a (ok_ast X hP (by decide +kernel : decode cX13_told 5 = .ok (.astore 4, 2)) (by decide) rfl) <|
   ev_a (ok_no) <|
   ev_a (ok_ald_n X hP (by decide +kernel : decode cX13_told 7 = .ok (.aload_n 1, 1)) rfl rfl) <|
   ev_a (ok_invV X hP hR hd2 hcf (ci := 4) ev_y11 rfl (by decide +kernel : decode cX13_told 8 = .ok (.invokevirtual 77, 3)) ev_w1522 ev_w1519 ev_w1520 ev_w1521 ev_w85 ⟨rfl, ev_dn11⟩ (by decide) rfl) <|
   ev_a (ok_no) <|
   ev_a (ok_no) <|
   ev_a (ok_ast X hP (by decide +kernel : decode cX13_told 11 = .ok (.astore 5, 2)) (by decide) rfl) <|
   ev_a (ok_no) <|
   ev_a (ok_ald X hP (by decide +kernel : decode cX13_told 13 = .ok (.aload 5, 2)) rfl) <|
   ev_a (ok_no) <|
   ev_a (ok_invF X hP hR hd2 hcf (ci := 3) (x := ⟨"java/util/Iterator", "hasNext", "()Z"⟩) ev_y2 rfl (by decide +kernel : decode cX13_told 15 = .ok (.invokeinterface 81 1, 5)) ev_w1551 ev_w1543 ev_w1547 ev_w1549 ev_w98 (by decide) (by decide +kernel) (by decide) rfl) <| ev_a0) <|
  ev_b (
   ev_a (ok_no) <|
   ev_a (ok_no) <|
   ev_a (ok_no) <|
   ev_a (ok_no) <|
   ev_a (ok_if_eq X hP (by decide +kernel : decode cX13_told 20 = .ok (.ifCond .eq 49, 3)) (by decide) rfl) <|
   ev_a (ok_no) <|
   ev_a (ok_no) <|
   ev_a (ok_ald X hP (by decide +kernel : decode cX13_told 23 = .ok (.aload 5, 2)) rfl) <|
   ev_a (ok_no) <|
   ev_a (ok_invF X hP hR hd2 hcf (ci := 3) (x := ⟨"java/util/Iterator", "next", "()Ljava/lang/Object;"⟩) ev_y4 rfl (by decide +kernel : decode cX13_told 25 = .ok (.invokeinterface 87 1, 5)) ev_w1560 ev_w1553 ev_w1556 ev_w1558 ev_w98 (by decide) (by decide +kernel) (by decide) rfl) <|
   ev_a (ok_no) <|
   ev_a (ok_no) <|
   ev_a (ok_no) <|
   ev_a (ok_no) <|
   ev_a (ok_castS X hP (ci := 17) (by decide +kernel : decode cX13_told 30 = .ok (.checkcast 91, 3)) rfl ev_w1565 rfl) <|
   ev_a (ok_no) <| ev_a0) <|
  ev_b (
   ev_a (ok_no) <|
   ev_a (ok_ast X hP (by decide +kernel : decode cX13_told 33 = .ok (.astore 6, 2)) (by decide) rfl) <|
   ev_a (ok_no) <|
   ev_a (ok_ald X hP (by decide +kernel : decode cX13_told 35 = .ok (.aload 6, 2)) rfl) <|
   ev_a (ok_no) <|
   ev_a (ok_ild_n X hP (by decide +kernel : decode cX13_told 37 = .ok (.iload_n 2, 1)) rfl rfl) <|
   ev_a (ok_invV X hP hR hd2 hcf (ci := 17) ev_y37 rfl (by decide +kernel : decode cX13_told 38 = .ok (.invokevirtual 107, 3)) ev_w1590 ev_w1587 ev_w1588 ev_w1589 ev_w99 ⟨rfl, ev_dn37⟩ (by decide) rfl) <|
   ev_a (ok_no) <|
   ev_a (ok_no) <|
   ev_a (ok_if_eq X hP (by decide +kernel : decode cX13_told 41 = .ok (.ifCond .eq 25, 3)) (by decide) rfl) <|
   ev_a (ok_no) <|
   ev_a (ok_no) <|
   ev_a (ok_ald X hP (by decide +kernel : decode cX13_told 44 = .ok (.aload 6, 2)) rfl) <|
   ev_a (ok_no) <|
   ev_a (ok_getN X hP (ci := 17) (kf := 1) (T := TX12) (by decide +kernel : decode cX13_told 46 = .ok (.getfield 97, 3)) rfl ev_in17 (by decide) ev_w1572 (Or.inl rfl) rfl) <|
   ev_a (ok_no) <| ev_a0) <|
  ev_b (
   ev_a (ok_no) <|
   ev_a (ok_ild_n X hP (by decide +kernel : decode cX13_told 49 = .ok (.iload_n 3, 1)) rfl rfl) <|
   ev_a (ok_icmp_lt X hP (by decide +kernel : decode cX13_told 50 = .ok (.if_icmp .lt 16, 3)) (by decide) rfl) <|
   ev_a (ok_no) <|
   ev_a (ok_no) <|
   ev_a (ok_ald X hP (by decide +kernel : decode cX13_told 53 = .ok (.aload 4, 2)) rfl) <|
   ev_a (ok_no) <|
   ev_a (ok_ald_n X hP (by decide +kernel : decode cX13_told 55 = .ok (.aload_n 0, 1)) rfl rfl) <|
   ev_a (ok_ald X hP (by decide +kernel : decode cX13_told 56 = .ok (.aload 6, 2)) rfl) <|
   ev_a (ok_no) <|
   ev_a (ok_getN X hP (ci := 17) (kf := 0) (T := TX12) (by decide +kernel : decode cX13_told 58 = .ok (.getfield 94, 3)) rfl ev_in17 (by decide) ev_w1571 (Or.inl rfl) rfl) <|
   ev_a (ok_no) <|
   ev_a (ok_no) <|
   ev_a (ok_invV X hP hR hd2 hcf (ci := 18) ev_y50 rfl (by decide +kernel : decode cX13_told 61 = .ok (.invokevirtual 110, 3)) ev_w1594 ev_w1591 ev_w1593 ev_w42 ev_w82 ⟨rfl, ev_dn50⟩ (by decide) rfl) <|
   ev_a (ok_no) <|
   ev_a (ok_no) <| ev_a0) <|
  ev_b (
   ev_a (ok_psh_iconst X hP (by decide +kernel : decode cX13_told 64 = .ok (.iconst 1, 1)) rfl) <|
   ev_a (ok_bastores X hP (by decide +kernel : decode cX13_told 65 = .ok (.bastore, 1)) rfl) <|
   ev_a (ok_jmp X hP (by decide +kernel : decode cX13_told 66 = .ok (.goto (-53), 3)) (by decide)) <|
   ev_a (ok_no) <|
   ev_a (ok_no) <|
   ev_a (ok_ald X hP (by decide +kernel : decode cX13_told 69 = .ok (.aload 4, 2)) rfl) <|
   ev_a (ok_no) <|
   ev_a (ok_areturn X hP hQ hfin rfl (Or.inr ⟨_, rfl⟩) (by decide +kernel : decode cX13_told 71 = .ok (.areturn, 1))) <| ev_a0) <|
  ev_b0
set_option maxRecDepth 100000 in
theorem ev_s54 {l : Launch} {d : Nat} {cf : Nat → List Value → ev_W → Option ev_R} {p : Program} {e : Env} {R : Room} {s : State} {m : MethodId} {args : Array Value} {below : List Frame} {meth : Method} {c : Code} {Q : State → Prop} {D : va_G} {G : Nat → ClassId} {ad : Nat → Nat} {A : Nat → Prop} {z wE nE : Nat} {P : Nat → List Value → List Value → ev_W → Nat → Prop} {α : Type} {r : α} {fin : Option Value → ev_W → Nat → Option α} (X : ev_X cX13_unsay 2 yX13_unsay.cls (some FieldType.int) p s m args meth c D G ad A z) (hP : ev_PP p l e R s m args below meth c Q 2 D G ad A z wE nE P) (hR : wE - z ≤ R.cells ∧ nE ≤ R.slots) (hd2 : d + 1 ≤ R.frames ∧ 64 * (d + 1) ≤ R.locals) (hR1 : 1 ≤ R.frames) (hR2 : 21 ≤ R.locals) (hcf : ev_cf l ev_ys d cf) {Qc : Array Value → State → Outcome → State → Prop} (hQ : Q = MQ below Qc args s (wE - z) nE A) (hfin : ∀ v w n, fin v w n = some r → w.length = wE ∧ n = nE ∧ ∀ H locs, ev_H D G ad A w H → va_S A s.heap H locs → ∀ t : State, t.heap = H → s.WarmedH t.vm → Qc args s (.returned (v.map (ev_v ad))) t) : ev_all2 (ev_ok P r) 0 (ev_o54 cf fin) :=
  ev_b (
   ev_a (ok_ald_n X hP (by decide +kernel : decode cX13_unsay 0 = .ok (.aload_n 0, 1)) rfl rfl) <|
   ev_a (ok_psh_iconst X hP (by decide +kernel : decode cX13_unsay 1 = .ok (.iconst 0, 1)) rfl) <|
   ev_a (ok_put X hP (ci := 18) (kf := 0) (T := TX13) tyX13 (by decide +kernel : decode cX13_unsay 2 = .ok (.putfield 33, 3)) rfl ev_in18 tyX13_ok nmX13 (by decide) ev_w1383 (Or.inl rfl) rfl rfl rfl) <|
   ev_a (ok_no) <|
   ev_a (ok_no) <|
   ev_a (ok_ild_n X hP (by decide +kernel : decode cX13_unsay 5 = .ok (.iload_n 1, 1)) rfl rfl) <|
   ev_a (ok_invS X hP hR hd2 hcf ev_y47 (by decide +kernel : decode cX13_unsay 6 = .ok (.invokestatic 56, 3)) ev_w1430 ev_w1428 ev_w1429 ev_w82 ev_dn47 (by decide) rfl) <|
   ev_a (ok_no) <|
   ev_a (ok_no) <|
   ev_a (ok_if_ne X hP (by decide +kernel : decode cX13_unsay 9 = .ok (.ifCond .ne 9, 3)) (by decide) rfl) <|
   ev_a (ok_no) <|
   ev_a (ok_no) <|
   ev_a (ok_ald_n X hP (by decide +kernel : decode cX13_unsay 12 = .ok (.aload_n 0, 1)) rfl rfl) <|
   ev_a (ok_psh_iconst X hP (by decide +kernel : decode cX13_unsay 13 = .ok (.iconst 1, 1)) rfl) <|
   ev_a (ok_no) <|
   ev_a (ok_no) <| ev_a0) <|
  ev_b (
   ev_a (ok_no) <|
   ev_a (ok_ireturn X hP hQ hfin rfl (by decide +kernel : decode cX13_unsay 17 = .ok (.ireturn, 1))) <|
   ev_a (ok_ald_n X hP (by decide +kernel : decode cX13_unsay 18 = .ok (.aload_n 0, 1)) rfl rfl) <|
   ev_a (ok_get X hP (ci := 18) (kf := 4) (T := TX13) (by decide +kernel : decode cX13_unsay 19 = .ok (.getfield 20, 3)) rfl ev_in18 (by decide) ev_w1387 (Or.inl rfl) rfl) <|
   ev_a (ok_no) <|
   ev_a (ok_no) <|
   ev_a (ok_invV X hP hR hd2 hcf (ci := 4) ev_y12 rfl (by decide +kernel : decode cX13_unsay 22 = .ok (.invokevirtual 63, 3)) ev_w1444 ev_w1441 ev_w1442 ev_w1443 ev_w85 ⟨rfl, ev_dn12⟩ (by decide) rfl) <|
   ev_a (ok_no) <|
   ev_a (ok_no) <|
   ev_a (ok_psh_bipush X hP (by decide +kernel : decode cX13_unsay 25 = .ok (.bipush 12, 2)) rfl) <|
   ev_a (ok_no) <|
   ev_a (ok_icmp_ne X hP (by decide +kernel : decode cX13_unsay 27 = .ok (.if_icmp .ne 9, 3)) (by decide) rfl) <|
   ev_a (ok_no) <|
   ev_a (ok_no) <|
   ev_a (ok_ald_n X hP (by decide +kernel : decode cX13_unsay 30 = .ok (.aload_n 0, 1)) rfl rfl) <|
   ev_a (ok_psh_iconst X hP (by decide +kernel : decode cX13_unsay 31 = .ok (.iconst 2, 1)) rfl) <| ev_a0) <|
  ev_b (
   ev_a (ok_no) <|
   ev_a (ok_no) <|
   ev_a (ok_no) <|
   ev_a (ok_ireturn X hP hQ hfin rfl (by decide +kernel : decode cX13_unsay 35 = .ok (.ireturn, 1))) <|
   ev_a (ok_ald_n X hP (by decide +kernel : decode cX13_unsay 36 = .ok (.aload_n 0, 1)) rfl rfl) <|
   ev_a (ok_get X hP (ci := 18) (kf := 4) (T := TX13) (by decide +kernel : decode cX13_unsay 37 = .ok (.getfield 20, 3)) rfl ev_in18 (by decide) ev_w1387 (Or.inl rfl) rfl) <|
   ev_a (ok_no) <|
   ev_a (ok_no) <|
   ev_a (ok_psh_iconst X hP (by decide +kernel : decode cX13_unsay 40 = .ok (.iconst 2, 1)) rfl) <|
   ev_a (ok_newarray X hP hR (by decide +kernel : decode cX13_unsay 41 = .ok (.newarray .int, 2)) (Or.inl ⟨rfl, rfl, rfl⟩) ev_w136 rfl) <|
   ev_a (ok_no) <|
   ev_a (ok_dup X hP (by decide +kernel : decode cX13_unsay 43 = .ok (.dup, 1)) rfl) <|
   ev_a (ok_psh_iconst X hP (by decide +kernel : decode cX13_unsay 44 = .ok (.iconst 0, 1)) rfl) <|
   ev_a (ok_ild_n X hP (by decide +kernel : decode cX13_unsay 45 = .ok (.iload_n 1, 1)) rfl rfl) <|
   ev_a (ok_iastores X hP (by decide +kernel : decode cX13_unsay 46 = .ok (.iastore, 1)) rfl) <|
   ev_a (ok_dup X hP (by decide +kernel : decode cX13_unsay 47 = .ok (.dup, 1)) rfl) <| ev_a0) <|
  ev_b (
   ev_a (ok_psh_iconst X hP (by decide +kernel : decode cX13_unsay 48 = .ok (.iconst 1, 1)) rfl) <|
   ev_a (ok_psh_iconst X hP (by decide +kernel : decode cX13_unsay 49 = .ok (.iconst 0, 1)) rfl) <|
   ev_a (ok_iastores X hP (by decide +kernel : decode cX13_unsay 50 = .ok (.iastore, 1)) rfl) <|
   ev_a (ok_invV X hP hR hd2 hcf (ci := 4) ev_y6 rfl (by decide +kernel : decode cX13_unsay 51 = .ok (.invokevirtual 67, 3)) ev_w1448 ev_w1445 ev_w1446 ev_w1447 ev_w85 ⟨rfl, ev_dn6⟩ (by decide) rfl) <|
   ev_a (ok_no) <|
   ev_a (ok_no) <|
   ev_a (ok_drop X hP (by decide +kernel : decode cX13_unsay 54 = .ok (.pop, 1)) rfl) <|
   ev_a (ok_ald_n X hP (by decide +kernel : decode cX13_unsay 55 = .ok (.aload_n 0, 1)) rfl rfl) <|
   ev_a (ok_get X hP (ci := 18) (kf := 4) (T := TX13) (by decide +kernel : decode cX13_unsay 56 = .ok (.getfield 20, 3)) rfl ev_in18 (by decide) ev_w1387 (Or.inl rfl) rfl) <|
   ev_a (ok_no) <|
   ev_a (ok_no) <|
   ev_a (ok_invV X hP hR hd2 hcf (ci := 4) ev_y12 rfl (by decide +kernel : decode cX13_unsay 59 = .ok (.invokevirtual 63, 3)) ev_w1444 ev_w1441 ev_w1442 ev_w1443 ev_w85 ⟨rfl, ev_dn12⟩ (by decide) rfl) <|
   ev_a (ok_no) <|
   ev_a (ok_no) <|
   ev_a (ok_ireturn X hP hQ hfin rfl (by decide +kernel : decode cX13_unsay 62 = .ok (.ireturn, 1))) <| ev_a0) <|
  ev_b0
set_option maxRecDepth 100000 in
theorem ev_s55 {l : Launch} {d : Nat} {cf : Nat → List Value → ev_W → Option ev_R} {p : Program} {e : Env} {R : Room} {s : State} {m : MethodId} {args : Array Value} {below : List Frame} {meth : Method} {c : Code} {Q : State → Prop} {D : va_G} {G : Nat → ClassId} {ad : Nat → Nat} {A : Nat → Prop} {z wE nE : Nat} {P : Nat → List Value → List Value → ev_W → Nat → Prop} {α : Type} {r : α} {fin : Option Value → ev_W → Nat → Option α} (X : ev_X cX1_init 1 yX1_init.cls none p s m args meth c D G ad A z) (hP : ev_PP p l e R s m args below meth c Q 1 D G ad A z wE nE P) (hR : wE - z ≤ R.cells ∧ nE ≤ R.slots) (hd2 : d + 1 ≤ R.frames ∧ 64 * (d + 1) ≤ R.locals) (hR1 : 1 ≤ R.frames) (hR2 : 21 ≤ R.locals) (hcf : ev_cf l ev_ys d cf) (hin2 : meth.name = "<init>") {Qc : Array Value → State → Outcome → State → Prop} (hQ : Q = MQ below Qc args s (wE - z) nE A) (hfin : ∀ v w n, fin v w n = some r → w.length = wE ∧ n = nE ∧ ∀ H locs, ev_H D G ad A w H → va_S A s.heap H locs → ∀ t : State, t.heap = H → s.WarmedH t.vm → Qc args s (.returned (v.map (ev_v ad))) t) : ev_all2 (ev_ok P r) 0 (ev_o55 cf fin) :=
  ev_b (
   ev_a (ok_ald_n X hP (by decide +kernel : decode cX1_init 0 = .ok (.aload_n 0, 1)) rfl rfl) <|
   ev_a (ok_obj X hP hR1 hR2 (by decide +kernel : decode cX1_init 1 = .ok (.invokespecial 3, 3)) ev_w234 ev_w115 ev_w116 rfl) <|
   ev_a (ok_no) <|
   ev_a (ok_no) <|
   ev_a (ok_ald_n X hP (by decide +kernel : decode cX1_init 4 = .ok (.aload_n 0, 1)) rfl rfl) <|
   ev_a (ok_psh_bipush X hP (by decide +kernel : decode cX1_init 5 = .ok (.bipush 10, 2)) rfl) <|
   ev_a (ok_no) <|
   ev_a (ok_newarray X hP hR (by decide +kernel : decode cX1_init 7 = .ok (.newarray .int, 2)) (Or.inl ⟨rfl, rfl, rfl⟩) ev_w136 rfl) <|
   ev_a (ok_no) <|
   ev_a (ok_putF X hP hin2 (ci := 6) (kf := 0) (T := TX1) tyX1 (by decide +kernel : decode cX1_init 9 = .ok (.putfield 9, 3)) rfl ev_in6 tyX1_ok nmX1 (by decide) ev_w235 (Or.inl rfl) rfl rfl rfl rfl) <|
   ev_a (ok_no) <|
   ev_a (ok_no) <|
   ev_a (ok_return X hP hQ hfin rfl (by decide +kernel : decode cX1_init 12 = .ok (.return_, 1))) <| ev_a0) <|
  ev_b0
set_option maxRecDepth 100000 in
theorem ev_s56 {l : Launch} {d : Nat} {cf : Nat → List Value → ev_W → Option ev_R} {p : Program} {e : Env} {R : Room} {s : State} {m : MethodId} {args : Array Value} {below : List Frame} {meth : Method} {c : Code} {Q : State → Prop} {D : va_G} {G : Nat → ClassId} {ad : Nat → Nat} {A : Nat → Prop} {z wE nE : Nat} {P : Nat → List Value → List Value → ev_W → Nat → Prop} {α : Type} {r : α} {fin : Option Value → ev_W → Nat → Option α} (X : ev_X cX2_init 1 yX2_init.cls none p s m args meth c D G ad A z) (hP : ev_PP p l e R s m args below meth c Q 1 D G ad A z wE nE P) (hR : wE - z ≤ R.cells ∧ nE ≤ R.slots) (hd2 : d + 1 ≤ R.frames ∧ 64 * (d + 1) ≤ R.locals) (hR1 : 1 ≤ R.frames) (hR2 : 21 ≤ R.locals) (hcf : ev_cf l ev_ys d cf) (hin2 : meth.name = "<init>") {Qc : Array Value → State → Outcome → State → Prop} (hQ : Q = MQ below Qc args s (wE - z) nE A) (hfin : ∀ v w n, fin v w n = some r → w.length = wE ∧ n = nE ∧ ∀ H locs, ev_H D G ad A w H → va_S A s.heap H locs → ∀ t : State, t.heap = H → s.WarmedH t.vm → Qc args s (.returned (v.map (ev_v ad))) t) : ev_all2 (ev_ok P r) 0 (ev_o56 cf fin) :=
  ev_b (
   ev_a (ok_ald_n X hP (by decide +kernel : decode cX2_init 0 = .ok (.aload_n 0, 1)) rfl rfl) <|
   ev_a (ok_obj X hP hR1 hR2 (by decide +kernel : decode cX2_init 1 = .ok (.invokespecial 3, 3)) ev_w277 ev_w115 ev_w116 rfl) <|
   ev_a (ok_no) <|
   ev_a (ok_no) <|
   ev_a (ok_ald_n X hP (by decide +kernel : decode cX2_init 4 = .ok (.aload_n 0, 1)) rfl rfl) <|
   ev_a (ok_psh_sipush X hP (by decide +kernel : decode cX2_init 5 = .ok (.sipush 556, 3)) rfl) <|
   ev_a (ok_no) <|
   ev_a (ok_no) <|
   ev_a (ok_newarray X hP hR (by decide +kernel : decode cX2_init 8 = .ok (.newarray .int, 2)) (Or.inl ⟨rfl, rfl, rfl⟩) ev_w136 rfl) <|
   ev_a (ok_no) <|
   ev_a (ok_putF X hP hin2 (ci := 7) (kf := 0) (T := TX2) tyX2 (by decide +kernel : decode cX2_init 10 = .ok (.putfield 9, 3)) rfl ev_in7 tyX2_ok nmX2 (by decide) ev_w278 (Or.inl rfl) rfl rfl rfl rfl) <|
   ev_a (ok_no) <|
   ev_a (ok_no) <|
   ev_a (ok_return X hP hQ hfin rfl (by decide +kernel : decode cX2_init 13 = .ok (.return_, 1))) <| ev_a0) <|
  ev_b0
set_option maxRecDepth 100000 in
theorem ev_s57 {l : Launch} {d : Nat} {cf : Nat → List Value → ev_W → Option ev_R} {p : Program} {e : Env} {R : Room} {s : State} {m : MethodId} {args : Array Value} {below : List Frame} {meth : Method} {c : Code} {Q : State → Prop} {D : va_G} {G : Nat → ClassId} {ad : Nat → Nat} {A : Nat → Prop} {z wE nE : Nat} {P : Nat → List Value → List Value → ev_W → Nat → Prop} {α : Type} {r : α} {fin : Option Value → ev_W → Nat → Option α} (X : ev_X cX3_init 1 yX3_init.cls none p s m args meth c D G ad A z) (hP : ev_PP p l e R s m args below meth c Q 1 D G ad A z wE nE P) (hR : wE - z ≤ R.cells ∧ nE ≤ R.slots) (hd2 : d + 1 ≤ R.frames ∧ 64 * (d + 1) ≤ R.locals) (hR1 : 1 ≤ R.frames) (hR2 : 21 ≤ R.locals) (hcf : ev_cf l ev_ys d cf) (hin2 : meth.name = "<init>") {Qc : Array Value → State → Outcome → State → Prop} (hQ : Q = MQ below Qc args s (wE - z) nE A) (hfin : ∀ v w n, fin v w n = some r → w.length = wE ∧ n = nE ∧ ∀ H locs, ev_H D G ad A w H → va_S A s.heap H locs → ∀ t : State, t.heap = H → s.WarmedH t.vm → Qc args s (.returned (v.map (ev_v ad))) t) : ev_all2 (ev_ok P r) 0 (ev_o57 cf fin) :=
  ev_b (
   ev_a (ok_ald_n X hP (by decide +kernel : decode cX3_init 0 = .ok (.aload_n 0, 1)) rfl rfl) <|
   ev_a (ok_obj X hP hR1 hR2 (by decide +kernel : decode cX3_init 1 = .ok (.invokespecial 3, 3)) ev_w228 ev_w115 ev_w116 rfl) <|
   ev_a (ok_no) <|
   ev_a (ok_no) <|
   ev_a (ok_ald_n X hP (by decide +kernel : decode cX3_init 4 = .ok (.aload_n 0, 1)) rfl rfl) <|
   ev_a (ok_psh_sipush X hP (by decide +kernel : decode cX3_init 5 = .ok (.sipush 648, 3)) rfl) <|
   ev_a (ok_no) <|
   ev_a (ok_no) <|
   ev_a (ok_newarray X hP hR (by decide +kernel : decode cX3_init 8 = .ok (.newarray .int, 2)) (Or.inl ⟨rfl, rfl, rfl⟩) ev_w136 rfl) <|
   ev_a (ok_no) <|
   ev_a (ok_putF X hP hin2 (ci := 8) (kf := 0) (T := TX3) tyX3 (by decide +kernel : decode cX3_init 10 = .ok (.putfield 9, 3)) rfl ev_in8 tyX3_ok nmX3 (by decide) ev_w242 (Or.inl rfl) rfl rfl rfl rfl) <|
   ev_a (ok_no) <|
   ev_a (ok_no) <|
   ev_a (ok_ald_n X hP (by decide +kernel : decode cX3_init 13 = .ok (.aload_n 0, 1)) rfl rfl) <|
   ev_a (ok_psh_sipush X hP (by decide +kernel : decode cX3_init 14 = .ok (.sipush 648, 3)) rfl) <|
   ev_a (ok_no) <| ev_a0) <|
  ev_b (
   ev_a (ok_no) <|
   ev_a (ok_newarray X hP hR (by decide +kernel : decode cX3_init 17 = .ok (.newarray .int, 2)) (Or.inl ⟨rfl, rfl, rfl⟩) ev_w136 rfl) <|
   ev_a (ok_no) <|
   ev_a (ok_putF X hP hin2 (ci := 8) (kf := 1) (T := TX3) tyX3 (by decide +kernel : decode cX3_init 19 = .ok (.putfield 15, 3)) rfl ev_in8 tyX3_ok nmX3 (by decide) ev_w244 (Or.inl rfl) rfl rfl rfl rfl) <|
   ev_a (ok_no) <|
   ev_a (ok_no) <|
   ev_a (ok_ald_n X hP (by decide +kernel : decode cX3_init 22 = .ok (.aload_n 0, 1)) rfl rfl) <|
   ev_a (ok_psh_sipush X hP (by decide +kernel : decode cX3_init 23 = .ok (.sipush 648, 3)) rfl) <|
   ev_a (ok_no) <|
   ev_a (ok_no) <|
   ev_a (ok_newarray X hP hR (by decide +kernel : decode cX3_init 26 = .ok (.newarray .int, 2)) (Or.inl ⟨rfl, rfl, rfl⟩) ev_w136 rfl) <|
   ev_a (ok_no) <|
   ev_a (ok_putF X hP hin2 (ci := 8) (kf := 2) (T := TX3) tyX3 (by decide +kernel : decode cX3_init 28 = .ok (.putfield 18, 3)) rfl ev_in8 tyX3_ok nmX3 (by decide) ev_w247 (Or.inl rfl) rfl rfl rfl rfl) <|
   ev_a (ok_no) <|
   ev_a (ok_no) <|
   ev_a (ok_ald_n X hP (by decide +kernel : decode cX3_init 31 = .ok (.aload_n 0, 1)) rfl rfl) <| ev_a0) <|
  ev_b (
   ev_a (ok_psh_sipush X hP (by decide +kernel : decode cX3_init 32 = .ok (.sipush 648, 3)) rfl) <|
   ev_a (ok_no) <|
   ev_a (ok_no) <|
   ev_a (ok_newarray X hP hR (by decide +kernel : decode cX3_init 35 = .ok (.newarray .int, 2)) (Or.inl ⟨rfl, rfl, rfl⟩) ev_w136 rfl) <|
   ev_a (ok_no) <|
   ev_a (ok_putF X hP hin2 (ci := 8) (kf := 3) (T := TX3) tyX3 (by decide +kernel : decode cX3_init 37 = .ok (.putfield 21, 3)) rfl ev_in8 tyX3_ok nmX3 (by decide) ev_w251 (Or.inl rfl) rfl rfl rfl rfl) <|
   ev_a (ok_no) <|
   ev_a (ok_no) <|
   ev_a (ok_ald_n X hP (by decide +kernel : decode cX3_init 40 = .ok (.aload_n 0, 1)) rfl rfl) <|
   ev_a (ok_new X hP hR (ci := 6) (N := 2) (T := TX1) tyX1 (by decide +kernel : decode cX3_init 41 = .ok (.new 24, 3)) rfl ev_in6 tyX1_ok ev_w229 ev_w230 ev_w78 (by decide +kernel) rfl ⟨rfl, by decide⟩ rfl) <|
   ev_a (ok_no) <|
   ev_a (ok_no) <|
   ev_a (ok_dup X hP (by decide +kernel : decode cX3_init 44 = .ok (.dup, 1)) rfl) <|
   ev_a (ok_invIN X hP hR hd2 hcf ev_y55 (by decide +kernel : decode cX3_init 45 = .ok (.invokespecial 26, 3)) ev_w233 ev_w231 ev_w232 ev_w78 rfl ev_dn55 (by decide) rfl) <|
   ev_a (ok_no) <|
   ev_a (ok_no) <| ev_a0) <|
  ev_b (
   ev_a (ok_putF X hP hin2 (ci := 8) (kf := 4) (T := TX3) tyX3 (by decide +kernel : decode cX3_init 48 = .ok (.putfield 27, 3)) rfl ev_in8 tyX3_ok nmX3 (by decide) ev_w255 (Or.inl rfl) rfl rfl rfl rfl) <|
   ev_a (ok_no) <|
   ev_a (ok_no) <|
   ev_a (ok_return X hP hQ hfin rfl (by decide +kernel : decode cX3_init 51 = .ok (.return_, 1))) <| ev_a0) <|
  ev_b0
set_option maxRecDepth 100000 in
theorem ev_s58 {l : Launch} {d : Nat} {cf : Nat → List Value → ev_W → Option ev_R} {p : Program} {e : Env} {R : Room} {s : State} {m : MethodId} {args : Array Value} {below : List Frame} {meth : Method} {c : Code} {Q : State → Prop} {D : va_G} {G : Nat → ClassId} {ad : Nat → Nat} {A : Nat → Prop} {z wE nE : Nat} {P : Nat → List Value → List Value → ev_W → Nat → Prop} {α : Type} {r : α} {fin : Option Value → ev_W → Nat → Option α} (X : ev_X cX4_headOf 2 yX4_headOf.cls (some FieldType.int) p s m args meth c D G ad A z) (hP : ev_PP p l e R s m args below meth c Q 2 D G ad A z wE nE P) (hR : wE - z ≤ R.cells ∧ nE ≤ R.slots) (hd2 : d + 1 ≤ R.frames ∧ 64 * (d + 1) ≤ R.locals) (hR1 : 1 ≤ R.frames) (hR2 : 21 ≤ R.locals) (hcf : ev_cf l ev_ys d cf) {Qc : Array Value → State → Outcome → State → Prop} (hQ : Q = MQ below Qc args s (wE - z) nE A) (hfin : ∀ v w n, fin v w n = some r → w.length = wE ∧ n = nE ∧ ∀ H locs, ev_H D G ad A w H → va_S A s.heap H locs → ∀ t : State, t.heap = H → s.WarmedH t.vm → Qc args s (.returned (v.map (ev_v ad))) t) : ev_all2 (ev_ok P r) 0 (ev_o58 cf fin) :=
  ev_b (
   ev_a (ok_ald_n X hP (by decide +kernel : decode cX4_headOf 0 = .ok (.aload_n 0, 1)) rfl rfl) <|
   ev_a (ok_get X hP (ci := 9) (kf := 0) (T := TX4) (by decide +kernel : decode cX4_headOf 1 = .ok (.getfield 9, 3)) rfl ev_in9 (by decide) ev_w127 (Or.inl rfl) rfl) <|
   ev_a (ok_no) <|
   ev_a (ok_no) <|
   ev_a (ok_ild_n X hP (by decide +kernel : decode cX4_headOf 4 = .ok (.iload_n 1, 1)) rfl rfl) <|
   ev_a (ok_psh_iconst X hP (by decide +kernel : decode cX4_headOf 5 = .ok (.iconst 0, 1)) rfl) <|
   ev_a (ok_invSN X hP hR hd2 hcf ev_y22 (by decide +kernel : decode cX4_headOf 6 = .ok (.invokestatic 32, 3)) ev_w423 ev_w421 ev_w422 ev_w71 ev_dn22 (by decide) rfl) <|
   ev_a (ok_no) <|
   ev_a (ok_no) <|
   ev_a (ok_ireturn X hP hQ hfin rfl (by decide +kernel : decode cX4_headOf 9 = .ok (.ireturn, 1))) <| ev_a0) <|
  ev_b0
set_option maxRecDepth 100000 in
theorem ev_s59 {l : Launch} {d : Nat} {cf : Nat → List Value → ev_W → Option ev_R} {p : Program} {e : Env} {R : Room} {s : State} {m : MethodId} {args : Array Value} {below : List Frame} {meth : Method} {c : Code} {Q : State → Prop} {D : va_G} {G : Nat → ClassId} {ad : Nat → Nat} {A : Nat → Prop} {z wE nE : Nat} {P : Nat → List Value → List Value → ev_W → Nat → Prop} {α : Type} {r : α} {fin : Option Value → ev_W → Nat → Option α} (X : ev_X cX4_headsOf 2 yX4_headsOf.cls (some FieldType.int) p s m args meth c D G ad A z) (hP : ev_PP p l e R s m args below meth c Q 2 D G ad A z wE nE P) (hR : wE - z ≤ R.cells ∧ nE ≤ R.slots) (hd2 : d + 1 ≤ R.frames ∧ 64 * (d + 1) ≤ R.locals) (hR1 : 1 ≤ R.frames) (hR2 : 21 ≤ R.locals) (hcf : ev_cf l ev_ys d cf) {Qc : Array Value → State → Outcome → State → Prop} (hQ : Q = MQ below Qc args s (wE - z) nE A) (hfin : ∀ v w n, fin v w n = some r → w.length = wE ∧ n = nE ∧ ∀ H locs, ev_H D G ad A w H → va_S A s.heap H locs → ∀ t : State, t.heap = H → s.WarmedH t.vm → Qc args s (.returned (v.map (ev_v ad))) t) : ev_all2 (ev_ok P r) 0 (ev_o59 cf fin) :=
  ev_b (
   ev_a (ok_ald_n X hP (by decide +kernel : decode cX4_headsOf 0 = .ok (.aload_n 0, 1)) rfl rfl) <|
   ev_a (ok_ild_n X hP (by decide +kernel : decode cX4_headsOf 1 = .ok (.iload_n 1, 1)) rfl rfl) <|
   ev_a (ok_psh_bipush X hP (by decide +kernel : decode cX4_headsOf 2 = .ok (.bipush 100, 2)) rfl) <|
   ev_a (ok_no) <|
   ev_a (ok_idiv X hP (by decide +kernel : decode cX4_headsOf 4 = .ok (.idiv, 1)) rfl) <|
   ev_a (ok_invV X hP hR hd2 hcf (ci := 9) ev_y58 rfl (by decide +kernel : decode cX4_headsOf 5 = .ok (.invokevirtual 18, 3)) ev_w420 ev_w417 ev_w418 ev_w419 ev_w72 ⟨rfl, ev_dn58⟩ (by decide) rfl) <|
   ev_a (ok_no) <|
   ev_a (ok_no) <|
   ev_a (ok_psh_bipush X hP (by decide +kernel : decode cX4_headsOf 8 = .ok (.bipush 100, 2)) rfl) <|
   ev_a (ok_no) <|
   ev_a (ok_imul X hP (by decide +kernel : decode cX4_headsOf 10 = .ok (.imul, 1)) rfl) <|
   ev_a (ok_ald_n X hP (by decide +kernel : decode cX4_headsOf 11 = .ok (.aload_n 0, 1)) rfl rfl) <|
   ev_a (ok_ild_n X hP (by decide +kernel : decode cX4_headsOf 12 = .ok (.iload_n 1, 1)) rfl rfl) <|
   ev_a (ok_psh_bipush X hP (by decide +kernel : decode cX4_headsOf 13 = .ok (.bipush 10, 2)) rfl) <|
   ev_a (ok_no) <|
   ev_a (ok_idiv X hP (by decide +kernel : decode cX4_headsOf 15 = .ok (.idiv, 1)) rfl) <| ev_a0) <|
  ev_b (
   ev_a (ok_psh_bipush X hP (by decide +kernel : decode cX4_headsOf 16 = .ok (.bipush 10, 2)) rfl) <|
   ev_a (ok_no) <|
   ev_a (ok_irem X hP (by decide +kernel : decode cX4_headsOf 18 = .ok (.irem, 1)) rfl) <|
   ev_a (ok_invV X hP hR hd2 hcf (ci := 9) ev_y58 rfl (by decide +kernel : decode cX4_headsOf 19 = .ok (.invokevirtual 18, 3)) ev_w420 ev_w417 ev_w418 ev_w419 ev_w72 ⟨rfl, ev_dn58⟩ (by decide) rfl) <|
   ev_a (ok_no) <|
   ev_a (ok_no) <|
   ev_a (ok_psh_bipush X hP (by decide +kernel : decode cX4_headsOf 22 = .ok (.bipush 10, 2)) rfl) <|
   ev_a (ok_no) <|
   ev_a (ok_imul X hP (by decide +kernel : decode cX4_headsOf 24 = .ok (.imul, 1)) rfl) <|
   ev_a (ok_iadd X hP (by decide +kernel : decode cX4_headsOf 25 = .ok (.iadd, 1)) rfl) <|
   ev_a (ok_ald_n X hP (by decide +kernel : decode cX4_headsOf 26 = .ok (.aload_n 0, 1)) rfl rfl) <|
   ev_a (ok_ild_n X hP (by decide +kernel : decode cX4_headsOf 27 = .ok (.iload_n 1, 1)) rfl rfl) <|
   ev_a (ok_psh_bipush X hP (by decide +kernel : decode cX4_headsOf 28 = .ok (.bipush 10, 2)) rfl) <|
   ev_a (ok_no) <|
   ev_a (ok_irem X hP (by decide +kernel : decode cX4_headsOf 30 = .ok (.irem, 1)) rfl) <|
   ev_a (ok_invV X hP hR hd2 hcf (ci := 9) ev_y58 rfl (by decide +kernel : decode cX4_headsOf 31 = .ok (.invokevirtual 18, 3)) ev_w420 ev_w417 ev_w418 ev_w419 ev_w72 ⟨rfl, ev_dn58⟩ (by decide) rfl) <| ev_a0) <|
  ev_b (
   ev_a (ok_no) <|
   ev_a (ok_no) <|
   ev_a (ok_iadd X hP (by decide +kernel : decode cX4_headsOf 34 = .ok (.iadd, 1)) rfl) <|
   ev_a (ok_ireturn X hP hQ hfin rfl (by decide +kernel : decode cX4_headsOf 35 = .ok (.ireturn, 1))) <| ev_a0) <|
  ev_b0
set_option maxRecDepth 100000 in
theorem ev_s60 {l : Launch} {d : Nat} {cf : Nat → List Value → ev_W → Option ev_R} {p : Program} {e : Env} {R : Room} {s : State} {m : MethodId} {args : Array Value} {below : List Frame} {meth : Method} {c : Code} {Q : State → Prop} {D : va_G} {G : Nat → ClassId} {ad : Nat → Nat} {A : Nat → Prop} {z wE nE : Nat} {P : Nat → List Value → List Value → ev_W → Nat → Prop} {α : Type} {r : α} {fin : Option Value → ev_W → Nat → Option α} (X : ev_X cX4_init 1 yX4_init.cls none p s m args meth c D G ad A z) (hP : ev_PP p l e R s m args below meth c Q 1 D G ad A z wE nE P) (hR : wE - z ≤ R.cells ∧ nE ≤ R.slots) (hd2 : d + 1 ≤ R.frames ∧ 64 * (d + 1) ≤ R.locals) (hR1 : 1 ≤ R.frames) (hR2 : 21 ≤ R.locals) (hcf : ev_cf l ev_ys d cf) (hin2 : meth.name = "<init>") {Qc : Array Value → State → Outcome → State → Prop} (hQ : Q = MQ below Qc args s (wE - z) nE A) (hfin : ∀ v w n, fin v w n = some r → w.length = wE ∧ n = nE ∧ ∀ H locs, ev_H D G ad A w H → va_S A s.heap H locs → ∀ t : State, t.heap = H → s.WarmedH t.vm → Qc args s (.returned (v.map (ev_v ad))) t) : ev_all2 (ev_ok P r) 0 (ev_o60 cf fin) :=
  ev_b (
   ev_a (ok_ald_n X hP (by decide +kernel : decode cX4_init 0 = .ok (.aload_n 0, 1)) rfl rfl) <|
   ev_a (ok_obj X hP hR1 hR2 (by decide +kernel : decode cX4_init 1 = .ok (.invokespecial 3, 3)) ev_w122 ev_w115 ev_w116 rfl) <|
   ev_a (ok_no) <|
   ev_a (ok_no) <|
   ev_a (ok_ald_n X hP (by decide +kernel : decode cX4_init 4 = .ok (.aload_n 0, 1)) rfl rfl) <|
   ev_a (ok_psh_bipush X hP (by decide +kernel : decode cX4_init 5 = .ok (.bipush 6, 2)) rfl) <|
   ev_a (ok_no) <|
   ev_a (ok_newarray X hP hR (by decide +kernel : decode cX4_init 7 = .ok (.newarray .int, 2)) (Or.inl ⟨rfl, rfl, rfl⟩) ev_w136 rfl) <|
   ev_a (ok_no) <|
   ev_a (ok_putF X hP hin2 (ci := 9) (kf := 0) (T := TX4) tyX4 (by decide +kernel : decode cX4_init 9 = .ok (.putfield 9, 3)) rfl ev_in9 tyX4_ok nmX4 (by decide) ev_w127 (Or.inl rfl) rfl rfl rfl rfl) <|
   ev_a (ok_no) <|
   ev_a (ok_no) <|
   ev_a (ok_ald_n X hP (by decide +kernel : decode cX4_init 12 = .ok (.aload_n 0, 1)) rfl rfl) <|
   ev_a (ok_invV X hP hR hd2 hcf (ci := 9) ev_y61 rfl (by decide +kernel : decode cX4_init 13 = .ok (.invokevirtual 15, 3)) ev_w126 ev_w123 ev_w124 ev_w125 ev_w72 ⟨rfl, ev_dn61⟩ (by decide) rfl) <|
   ev_a (ok_no) <|
   ev_a (ok_no) <| ev_a0) <|
  ev_b (
   ev_a (ok_return X hP hQ hfin rfl (by decide +kernel : decode cX4_init 16 = .ok (.return_, 1))) <| ev_a0) <|
  ev_b0
set_option maxRecDepth 100000 in
theorem ev_s61 {l : Launch} {d : Nat} {cf : Nat → List Value → ev_W → Option ev_R} {p : Program} {e : Env} {R : Room} {s : State} {m : MethodId} {args : Array Value} {below : List Frame} {meth : Method} {c : Code} {Q : State → Prop} {D : va_G} {G : Nat → ClassId} {ad : Nat → Nat} {A : Nat → Prop} {z wE nE : Nat} {P : Nat → List Value → List Value → ev_W → Nat → Prop} {α : Type} {r : α} {fin : Option Value → ev_W → Nat → Option α} (X : ev_X cX4_separate 2 yX4_separate.cls none p s m args meth c D G ad A z) (hP : ev_PP p l e R s m args below meth c Q 2 D G ad A z wE nE P) (hR : wE - z ≤ R.cells ∧ nE ≤ R.slots) (hd2 : d + 1 ≤ R.frames ∧ 64 * (d + 1) ≤ R.locals) (hR1 : 1 ≤ R.frames) (hR2 : 21 ≤ R.locals) (hcf : ev_cf l ev_ys d cf) {Qc : Array Value → State → Outcome → State → Prop} (hQ : Q = MQ below Qc args s (wE - z) nE A) (hfin : ∀ v w n, fin v w n = some r → w.length = wE ∧ n = nE ∧ ∀ H locs, ev_H D G ad A w H → va_S A s.heap H locs → ∀ t : State, t.heap = H → s.WarmedH t.vm → Qc args s (.returned (v.map (ev_v ad))) t) : ev_all2 (ev_ok P r) 0 (ev_o61 cf fin) :=
  ev_b (
   ev_a (ok_psh_iconst X hP (by decide +kernel : decode cX4_separate 0 = .ok (.iconst 0, 1)) rfl) <|
   ev_a (ok_ist_n X hP (by decide +kernel : decode cX4_separate 1 = .ok (.istore_n 1, 1)) rfl (by decide) rfl) <|
   ev_a (ok_ild_n X hP (by decide +kernel : decode cX4_separate 2 = .ok (.iload_n 1, 1)) rfl rfl) <|
   ev_a (ok_ald_n X hP (by decide +kernel : decode cX4_separate 3 = .ok (.aload_n 0, 1)) rfl rfl) <|
   ev_a (ok_get X hP (ci := 9) (kf := 0) (T := TX4) (by decide +kernel : decode cX4_separate 4 = .ok (.getfield 9, 3)) rfl ev_in9 (by decide) ev_w127 (Or.inl rfl) rfl) <|
   ev_a (ok_no) <|
   ev_a (ok_no) <|
   ev_a (ok_aln X hP (by decide +kernel : decode cX4_separate 7 = .ok (.arraylength, 1)) rfl) <|
   ev_a (ok_icmp_ge X hP (by decide +kernel : decode cX4_separate 8 = .ok (.if_icmp .ge 16, 3)) (by decide) rfl) <|
   ev_a (ok_no) <|
   ev_a (ok_no) <|
   ev_a (ok_ald_n X hP (by decide +kernel : decode cX4_separate 11 = .ok (.aload_n 0, 1)) rfl rfl) <|
   ev_a (ok_get X hP (ci := 9) (kf := 0) (T := TX4) (by decide +kernel : decode cX4_separate 12 = .ok (.getfield 9, 3)) rfl ev_in9 (by decide) ev_w127 (Or.inl rfl) rfl) <|
   ev_a (ok_no) <|
   ev_a (ok_no) <|
   ev_a (ok_ild_n X hP (by decide +kernel : decode cX4_separate 15 = .ok (.iload_n 1, 1)) rfl rfl) <| ev_a0) <|
  ev_b (
   ev_a (ok_ild_n X hP (by decide +kernel : decode cX4_separate 16 = .ok (.iload_n 1, 1)) rfl rfl) <|
   ev_a (ok_iastores X hP (by decide +kernel : decode cX4_separate 17 = .ok (.iastore, 1)) rfl) <|
   ev_a (ok_inc X hP (by decide +kernel : decode cX4_separate 18 = .ok (.iinc 1 1, 3)) (by decide) rfl) <|
   ev_a (ok_no) <|
   ev_a (ok_no) <|
   ev_a (ok_jmp X hP (by decide +kernel : decode cX4_separate 21 = .ok (.goto (-19), 3)) (by decide)) <|
   ev_a (ok_no) <|
   ev_a (ok_no) <|
   ev_a (ok_return X hP hQ hfin rfl (by decide +kernel : decode cX4_separate 24 = .ok (.return_, 1))) <| ev_a0) <|
  ev_b0
set_option maxRecDepth 100000 in
theorem ev_s62 {l : Launch} {d : Nat} {cf : Nat → List Value → ev_W → Option ev_R} {p : Program} {e : Env} {R : Room} {s : State} {m : MethodId} {args : Array Value} {below : List Frame} {meth : Method} {c : Code} {Q : State → Prop} {D : va_G} {G : Nat → ClassId} {ad : Nat → Nat} {A : Nat → Prop} {z wE nE : Nat} {P : Nat → List Value → List Value → ev_W → Nat → Prop} {α : Type} {r : α} {fin : Option Value → ev_W → Nat → Option α} (X : ev_X cX5_init 1 yX5_init.cls none p s m args meth c D G ad A z) (hP : ev_PP p l e R s m args below meth c Q 1 D G ad A z wE nE P) (hR : wE - z ≤ R.cells ∧ nE ≤ R.slots) (hd2 : d + 1 ≤ R.frames ∧ 64 * (d + 1) ≤ R.locals) (hR1 : 1 ≤ R.frames) (hR2 : 21 ≤ R.locals) (hcf : ev_cf l ev_ys d cf) (hin2 : meth.name = "<init>") {Qc : Array Value → State → Outcome → State → Prop} (hQ : Q = MQ below Qc args s (wE - z) nE A) (hfin : ∀ v w n, fin v w n = some r → w.length = wE ∧ n = nE ∧ ∀ H locs, ev_H D G ad A w H → va_S A s.heap H locs → ∀ t : State, t.heap = H → s.WarmedH t.vm → Qc args s (.returned (v.map (ev_v ad))) t) : ev_all2 (ev_ok P r) 0 (ev_o62 cf fin) :=
  ev_b (
   ev_a (ok_ald_n X hP (by decide +kernel : decode cX5_init 0 = .ok (.aload_n 0, 1)) rfl rfl) <|
   ev_a (ok_obj X hP hR1 hR2 (by decide +kernel : decode cX5_init 1 = .ok (.invokespecial 3, 3)) ev_w295 ev_w115 ev_w116 rfl) <|
   ev_a (ok_no) <|
   ev_a (ok_no) <|
   ev_a (ok_ald_n X hP (by decide +kernel : decode cX5_init 4 = .ok (.aload_n 0, 1)) rfl rfl) <|
   ev_a (ok_psh_sipush X hP (by decide +kernel : decode cX5_init 5 = .ok (.sipush 556, 3)) rfl) <|
   ev_a (ok_no) <|
   ev_a (ok_no) <|
   ev_a (ok_newarray X hP hR (by decide +kernel : decode cX5_init 8 = .ok (.newarray .int, 2)) (Or.inl ⟨rfl, rfl, rfl⟩) ev_w136 rfl) <|
   ev_a (ok_no) <|
   ev_a (ok_putF X hP hin2 (ci := 10) (kf := 0) (T := TX5) tyX5 (by decide +kernel : decode cX5_init 10 = .ok (.putfield 9, 3)) rfl ev_in10 tyX5_ok nmX5 (by decide) ev_w296 (Or.inl rfl) rfl rfl rfl rfl) <|
   ev_a (ok_no) <|
   ev_a (ok_no) <|
   ev_a (ok_ald_n X hP (by decide +kernel : decode cX5_init 13 = .ok (.aload_n 0, 1)) rfl rfl) <|
   ev_a (ok_psh_sipush X hP (by decide +kernel : decode cX5_init 14 = .ok (.sipush 556, 3)) rfl) <|
   ev_a (ok_no) <| ev_a0) <|
  ev_b (
   ev_a (ok_no) <|
   ev_a (ok_newarray X hP hR (by decide +kernel : decode cX5_init 17 = .ok (.newarray .int, 2)) (Or.inl ⟨rfl, rfl, rfl⟩) ev_w136 rfl) <|
   ev_a (ok_no) <|
   ev_a (ok_putF X hP hin2 (ci := 10) (kf := 1) (T := TX5) tyX5 (by decide +kernel : decode cX5_init 19 = .ok (.putfield 15, 3)) rfl ev_in10 tyX5_ok nmX5 (by decide) ev_w298 (Or.inl rfl) rfl rfl rfl rfl) <|
   ev_a (ok_no) <|
   ev_a (ok_no) <|
   ev_a (ok_ald_n X hP (by decide +kernel : decode cX5_init 22 = .ok (.aload_n 0, 1)) rfl rfl) <|
   ev_a (ok_psh_sipush X hP (by decide +kernel : decode cX5_init 23 = .ok (.sipush 556, 3)) rfl) <|
   ev_a (ok_no) <|
   ev_a (ok_no) <|
   ev_a (ok_newarray X hP hR (by decide +kernel : decode cX5_init 26 = .ok (.newarray .int, 2)) (Or.inl ⟨rfl, rfl, rfl⟩) ev_w136 rfl) <|
   ev_a (ok_no) <|
   ev_a (ok_putF X hP hin2 (ci := 10) (kf := 2) (T := TX5) tyX5 (by decide +kernel : decode cX5_init 28 = .ok (.putfield 18, 3)) rfl ev_in10 tyX5_ok nmX5 (by decide) ev_w300 (Or.inl rfl) rfl rfl rfl rfl) <|
   ev_a (ok_no) <|
   ev_a (ok_no) <|
   ev_a (ok_return X hP hQ hfin rfl (by decide +kernel : decode cX5_init 31 = .ok (.return_, 1))) <| ev_a0) <|
  ev_b0
set_option maxRecDepth 100000 in
theorem ev_s63 {l : Launch} {d : Nat} {cf : Nat → List Value → ev_W → Option ev_R} {p : Program} {e : Env} {R : Room} {s : State} {m : MethodId} {args : Array Value} {below : List Frame} {meth : Method} {c : Code} {Q : State → Prop} {D : va_G} {G : Nat → ClassId} {ad : Nat → Nat} {A : Nat → Prop} {z wE nE : Nat} {P : Nat → List Value → List Value → ev_W → Nat → Prop} {α : Type} {r : α} {fin : Option Value → ev_W → Nat → Option α} (X : ev_X cX6_init 1 yX6_init.cls none p s m args meth c D G ad A z) (hP : ev_PP p l e R s m args below meth c Q 1 D G ad A z wE nE P) (hR : wE - z ≤ R.cells ∧ nE ≤ R.slots) (hd2 : d + 1 ≤ R.frames ∧ 64 * (d + 1) ≤ R.locals) (hR1 : 1 ≤ R.frames) (hR2 : 21 ≤ R.locals) (hcf : ev_cf l ev_ys d cf) (hin2 : meth.name = "<init>") {Qc : Array Value → State → Outcome → State → Prop} (hQ : Q = MQ below Qc args s (wE - z) nE A) (hfin : ∀ v w n, fin v w n = some r → w.length = wE ∧ n = nE ∧ ∀ H locs, ev_H D G ad A w H → va_S A s.heap H locs → ∀ t : State, t.heap = H → s.WarmedH t.vm → Qc args s (.returned (v.map (ev_v ad))) t) : ev_all2 (ev_ok P r) 0 (ev_o63 cf fin) :=
  ev_b (
   ev_a (ok_ald_n X hP (by decide +kernel : decode cX6_init 0 = .ok (.aload_n 0, 1)) rfl rfl) <|
   ev_a (ok_obj X hP hR1 hR2 (by decide +kernel : decode cX6_init 1 = .ok (.invokespecial 3, 3)) ev_w314 ev_w115 ev_w116 rfl) <|
   ev_a (ok_no) <|
   ev_a (ok_no) <|
   ev_a (ok_ald_n X hP (by decide +kernel : decode cX6_init 4 = .ok (.aload_n 0, 1)) rfl rfl) <|
   ev_a (ok_psh_iconst X hP (by decide +kernel : decode cX6_init 5 = .ok (.iconst 3, 1)) rfl) <|
   ev_a (ok_newarray X hP hR (by decide +kernel : decode cX6_init 6 = .ok (.newarray .int, 2)) (Or.inl ⟨rfl, rfl, rfl⟩) ev_w136 rfl) <|
   ev_a (ok_no) <|
   ev_a (ok_putF X hP hin2 (ci := 11) (kf := 0) (T := TX6) tyX6 (by decide +kernel : decode cX6_init 8 = .ok (.putfield 9, 3)) rfl ev_in11 tyX6_ok nmX6 (by decide) ev_w317 (Or.inl rfl) rfl rfl rfl rfl) <|
   ev_a (ok_no) <|
   ev_a (ok_no) <|
   ev_a (ok_ald_n X hP (by decide +kernel : decode cX6_init 11 = .ok (.aload_n 0, 1)) rfl rfl) <|
   ev_a (ok_psh_iconst X hP (by decide +kernel : decode cX6_init 12 = .ok (.iconst 3, 1)) rfl) <|
   ev_a (ok_newarray X hP hR (by decide +kernel : decode cX6_init 13 = .ok (.newarray .int, 2)) (Or.inl ⟨rfl, rfl, rfl⟩) ev_w136 rfl) <|
   ev_a (ok_no) <|
   ev_a (ok_putF X hP hin2 (ci := 11) (kf := 1) (T := TX6) tyX6 (by decide +kernel : decode cX6_init 15 = .ok (.putfield 15, 3)) rfl ev_in11 tyX6_ok nmX6 (by decide) ev_w318 (Or.inl rfl) rfl rfl rfl rfl) <| ev_a0) <|
  ev_b (
   ev_a (ok_no) <|
   ev_a (ok_no) <|
   ev_a (ok_ald_n X hP (by decide +kernel : decode cX6_init 18 = .ok (.aload_n 0, 1)) rfl rfl) <|
   ev_a (ok_psh_sipush X hP (by decide +kernel : decode cX6_init 19 = .ok (.sipush 1296, 3)) rfl) <|
   ev_a (ok_no) <|
   ev_a (ok_no) <|
   ev_a (ok_newarray X hP hR (by decide +kernel : decode cX6_init 22 = .ok (.newarray .int, 2)) (Or.inl ⟨rfl, rfl, rfl⟩) ev_w136 rfl) <|
   ev_a (ok_no) <|
   ev_a (ok_putF X hP hin2 (ci := 11) (kf := 2) (T := TX6) tyX6 (by decide +kernel : decode cX6_init 24 = .ok (.putfield 18, 3)) rfl ev_in11 tyX6_ok nmX6 (by decide) ev_w319 (Or.inl rfl) rfl rfl rfl rfl) <|
   ev_a (ok_no) <|
   ev_a (ok_no) <|
   ev_a (ok_ald_n X hP (by decide +kernel : decode cX6_init 27 = .ok (.aload_n 0, 1)) rfl rfl) <|
   ev_a (ok_new X hP hR (ci := 6) (N := 2) (T := TX1) tyX1 (by decide +kernel : decode cX6_init 28 = .ok (.new 21, 3)) rfl ev_in6 tyX1_ok ev_w315 ev_w230 ev_w78 (by decide +kernel) rfl ⟨rfl, by decide⟩ rfl) <|
   ev_a (ok_no) <|
   ev_a (ok_no) <|
   ev_a (ok_dup X hP (by decide +kernel : decode cX6_init 31 = .ok (.dup, 1)) rfl) <| ev_a0) <|
  ev_b (
   ev_a (ok_invIN X hP hR hd2 hcf ev_y55 (by decide +kernel : decode cX6_init 32 = .ok (.invokespecial 23, 3)) ev_w233 ev_w316 ev_w232 ev_w78 rfl ev_dn55 (by decide) rfl) <|
   ev_a (ok_no) <|
   ev_a (ok_no) <|
   ev_a (ok_putF X hP hin2 (ci := 11) (kf := 3) (T := TX6) tyX6 (by decide +kernel : decode cX6_init 35 = .ok (.putfield 24, 3)) rfl ev_in11 tyX6_ok nmX6 (by decide) ev_w321 (Or.inl rfl) rfl rfl rfl rfl) <|
   ev_a (ok_no) <|
   ev_a (ok_no) <|
   ev_a (ok_ald_n X hP (by decide +kernel : decode cX6_init 38 = .ok (.aload_n 0, 1)) rfl rfl) <|
   ev_a (ok_new X hP hR (ci := 6) (N := 2) (T := TX1) tyX1 (by decide +kernel : decode cX6_init 39 = .ok (.new 21, 3)) rfl ev_in6 tyX1_ok ev_w315 ev_w230 ev_w78 (by decide +kernel) rfl ⟨rfl, by decide⟩ rfl) <|
   ev_a (ok_no) <|
   ev_a (ok_no) <|
   ev_a (ok_dup X hP (by decide +kernel : decode cX6_init 42 = .ok (.dup, 1)) rfl) <|
   ev_a (ok_invIN X hP hR hd2 hcf ev_y55 (by decide +kernel : decode cX6_init 43 = .ok (.invokespecial 23, 3)) ev_w233 ev_w316 ev_w232 ev_w78 rfl ev_dn55 (by decide) rfl) <|
   ev_a (ok_no) <|
   ev_a (ok_no) <|
   ev_a (ok_putF X hP hin2 (ci := 11) (kf := 4) (T := TX6) tyX6 (by decide +kernel : decode cX6_init 46 = .ok (.putfield 28, 3)) rfl ev_in11 tyX6_ok nmX6 (by decide) ev_w322 (Or.inl rfl) rfl rfl rfl rfl) <|
   ev_a (ok_no) <| ev_a0) <|
  ev_b (
   ev_a (ok_no) <|
   ev_a (ok_ald_n X hP (by decide +kernel : decode cX6_init 49 = .ok (.aload_n 0, 1)) rfl rfl) <|
   ev_a (ok_psh_iconst X hP (by decide +kernel : decode cX6_init 50 = .ok (.iconst (-1), 1)) rfl) <|
   ev_a (ok_put X hP (ci := 11) (kf := 7) (T := TX6) tyX6 (by decide +kernel : decode cX6_init 51 = .ok (.putfield 31, 3)) rfl ev_in11 tyX6_ok nmX6 (by decide) ev_w326 (Or.inl rfl) rfl rfl rfl) <|
   ev_a (ok_no) <|
   ev_a (ok_no) <|
   ev_a (ok_return X hP hQ hfin rfl (by decide +kernel : decode cX6_init 54 = .ok (.return_, 1))) <| ev_a0) <|
  ev_b0
set_option maxRecDepth 100000 in
theorem ev_s64 {l : Launch} {d : Nat} {cf : Nat → List Value → ev_W → Option ev_R} {p : Program} {e : Env} {R : Room} {s : State} {m : MethodId} {args : Array Value} {below : List Frame} {meth : Method} {c : Code} {Q : State → Prop} {D : va_G} {G : Nat → ClassId} {ad : Nat → Nat} {A : Nat → Prop} {z wE nE : Nat} {P : Nat → List Value → List Value → ev_W → Nat → Prop} {α : Type} {r : α} {fin : Option Value → ev_W → Nat → Option α} (X : ev_X cX7_begin 6 yX7_begin.cls none p s m args meth c D G ad A z) (hP : ev_PP p l e R s m args below meth c Q 6 D G ad A z wE nE P) (hR : wE - z ≤ R.cells ∧ nE ≤ R.slots) (hd2 : d + 1 ≤ R.frames ∧ 64 * (d + 1) ≤ R.locals) (hR1 : 1 ≤ R.frames) (hR2 : 21 ≤ R.locals) (hcf : ev_cf l ev_ys d cf) {Qc : Array Value → State → Outcome → State → Prop} (hQ : Q = MQ below Qc args s (wE - z) nE A) (hfin : ∀ v w n, fin v w n = some r → w.length = wE ∧ n = nE ∧ ∀ H locs, ev_H D G ad A w H → va_S A s.heap H locs → ∀ t : State, t.heap = H → s.WarmedH t.vm → Qc args s (.returned (v.map (ev_v ad))) t) : ev_all2 (ev_ok P r) 0 (ev_o64 cf fin) :=
  ev_b (
   ev_a (ok_ald_n X hP (by decide +kernel : decode cX7_begin 0 = .ok (.aload_n 0, 1)) rfl rfl) <|
   ev_a (ok_ild_n X hP (by decide +kernel : decode cX7_begin 1 = .ok (.iload_n 1, 1)) rfl rfl) <|
   ev_a (ok_invV X hP hR hd2 hcf (ci := 12) ev_y70 rfl (by decide +kernel : decode cX7_begin 2 = .ok (.invokevirtual 66, 3)) ev_w680 ev_w677 ev_w679 ev_w22 ev_w74 ⟨rfl, ev_dn70⟩ (by decide) rfl) <|
   ev_a (ok_no) <|
   ev_a (ok_no) <|
   ev_a (ok_ist X hP (by decide +kernel : decode cX7_begin 5 = .ok (.istore 5, 2)) (by decide) rfl) <|
   ev_a (ok_no) <|
   ev_a (ok_ild X hP (by decide +kernel : decode cX7_begin 7 = .ok (.iload 5, 2)) rfl) <|
   ev_a (ok_no) <|
   ev_a (ok_psh_iconst X hP (by decide +kernel : decode cX7_begin 9 = .ok (.iconst (-1), 1)) rfl) <|
   ev_a (ok_icmp_eq X hP (by decide +kernel : decode cX7_begin 10 = .ok (.if_icmp .eq 27, 3)) (by decide) rfl) <|
   ev_a (ok_no) <|
   ev_a (ok_no) <|
   ev_a (ok_ald_n X hP (by decide +kernel : decode cX7_begin 13 = .ok (.aload_n 0, 1)) rfl rfl) <|
   ev_a (ok_get X hP (ci := 12) (kf := 2) (T := TX7) (by decide +kernel : decode cX7_begin 14 = .ok (.getfield 18, 3)) rfl ev_in12 (by decide) ev_w167 (Or.inl rfl) rfl) <|
   ev_a (ok_no) <| ev_a0) <|
  ev_b (
   ev_a (ok_no) <|
   ev_a (ok_ild X hP (by decide +kernel : decode cX7_begin 17 = .ok (.iload 5, 2)) rfl) <|
   ev_a (ok_no) <|
   ev_a (ok_ild_n X hP (by decide +kernel : decode cX7_begin 19 = .ok (.iload_n 3, 1)) rfl rfl) <|
   ev_a (ok_ald_n X hP (by decide +kernel : decode cX7_begin 20 = .ok (.aload_n 0, 1)) rfl rfl) <|
   ev_a (ok_get X hP (ci := 12) (kf := 2) (T := TX7) (by decide +kernel : decode cX7_begin 21 = .ok (.getfield 18, 3)) rfl ev_in12 (by decide) ev_w167 (Or.inl rfl) rfl) <|
   ev_a (ok_no) <|
   ev_a (ok_no) <|
   ev_a (ok_ild X hP (by decide +kernel : decode cX7_begin 24 = .ok (.iload 5, 2)) rfl) <|
   ev_a (ok_no) <|
   ev_a (ok_psh_iconst X hP (by decide +kernel : decode cX7_begin 26 = .ok (.iconst 0, 1)) rfl) <|
   ev_a (ok_invSN X hP hR hd2 hcf ev_y22 (by decide +kernel : decode cX7_begin 27 = .ok (.invokestatic 35, 3)) ev_w423 ev_w433 ev_w422 ev_w71 ev_dn22 (by decide) rfl) <|
   ev_a (ok_no) <|
   ev_a (ok_no) <|
   ev_a (ok_no) <|
   ev_a (ok_no) <| ev_a0) <|
  ev_b (
   ev_a (ok_no) <|
   ev_a (ok_invSN X hP hR hd2 hcf ev_y31 (by decide +kernel : decode cX7_begin 33 = .ok (.invokestatic 45, 3)) ev_w440 ev_w438 ev_w439 ev_w71 ev_dn31 (by decide) rfl) <|
   ev_a (ok_no) <|
   ev_a (ok_no) <|
   ev_a (ok_return X hP hQ hfin rfl (by decide +kernel : decode cX7_begin 36 = .ok (.return_, 1))) <|
   ev_a (ok_ald_n X hP (by decide +kernel : decode cX7_begin 37 = .ok (.aload_n 0, 1)) rfl rfl) <|
   ev_a (ok_get X hP (ci := 12) (kf := 0) (T := TX7) (by decide +kernel : decode cX7_begin 38 = .ok (.getfield 11, 3)) rfl ev_in12 (by decide) ev_w163 (Or.inl rfl) rfl) <|
   ev_a (ok_no) <|
   ev_a (ok_no) <|
   ev_a (ok_ald_n X hP (by decide +kernel : decode cX7_begin 41 = .ok (.aload_n 0, 1)) rfl rfl) <|
   ev_a (ok_get X hP (ci := 12) (kf := 5) (T := TX7) (by decide +kernel : decode cX7_begin 42 = .ok (.getfield 27, 3)) rfl ev_in12 (by decide) ev_w171 (Or.inl rfl) rfl) <|
   ev_a (ok_no) <|
   ev_a (ok_no) <|
   ev_a (ok_ild_n X hP (by decide +kernel : decode cX7_begin 45 = .ok (.iload_n 1, 1)) rfl rfl) <|
   ev_a (ok_invSN X hP hR hd2 hcf ev_y31 (by decide +kernel : decode cX7_begin 46 = .ok (.invokestatic 45, 3)) ev_w440 ev_w438 ev_w439 ev_w71 ev_dn31 (by decide) rfl) <|
   ev_a (ok_no) <| ev_a0) <|
  ev_b (
   ev_a (ok_no) <|
   ev_a (ok_ald_n X hP (by decide +kernel : decode cX7_begin 49 = .ok (.aload_n 0, 1)) rfl rfl) <|
   ev_a (ok_get X hP (ci := 12) (kf := 1) (T := TX7) (by decide +kernel : decode cX7_begin 50 = .ok (.getfield 15, 3)) rfl ev_in12 (by decide) ev_w164 (Or.inl rfl) rfl) <|
   ev_a (ok_no) <|
   ev_a (ok_no) <|
   ev_a (ok_ald_n X hP (by decide +kernel : decode cX7_begin 53 = .ok (.aload_n 0, 1)) rfl rfl) <|
   ev_a (ok_get X hP (ci := 12) (kf := 5) (T := TX7) (by decide +kernel : decode cX7_begin 54 = .ok (.getfield 27, 3)) rfl ev_in12 (by decide) ev_w171 (Or.inl rfl) rfl) <|
   ev_a (ok_no) <|
   ev_a (ok_no) <|
   ev_a (ok_ild_n X hP (by decide +kernel : decode cX7_begin 57 = .ok (.iload_n 2, 1)) rfl rfl) <|
   ev_a (ok_invSN X hP hR hd2 hcf ev_y31 (by decide +kernel : decode cX7_begin 58 = .ok (.invokestatic 45, 3)) ev_w440 ev_w438 ev_w439 ev_w71 ev_dn31 (by decide) rfl) <|
   ev_a (ok_no) <|
   ev_a (ok_no) <|
   ev_a (ok_ald_n X hP (by decide +kernel : decode cX7_begin 61 = .ok (.aload_n 0, 1)) rfl rfl) <|
   ev_a (ok_get X hP (ci := 12) (kf := 2) (T := TX7) (by decide +kernel : decode cX7_begin 62 = .ok (.getfield 18, 3)) rfl ev_in12 (by decide) ev_w167 (Or.inl rfl) rfl) <|
   ev_a (ok_no) <| ev_a0) <|
  ev_b (
   ev_a (ok_no) <|
   ev_a (ok_ald_n X hP (by decide +kernel : decode cX7_begin 65 = .ok (.aload_n 0, 1)) rfl rfl) <|
   ev_a (ok_get X hP (ci := 12) (kf := 5) (T := TX7) (by decide +kernel : decode cX7_begin 66 = .ok (.getfield 27, 3)) rfl ev_in12 (by decide) ev_w171 (Or.inl rfl) rfl) <|
   ev_a (ok_no) <|
   ev_a (ok_no) <|
   ev_a (ok_ild_n X hP (by decide +kernel : decode cX7_begin 69 = .ok (.iload_n 3, 1)) rfl rfl) <|
   ev_a (ok_invSN X hP hR hd2 hcf ev_y31 (by decide +kernel : decode cX7_begin 70 = .ok (.invokestatic 45, 3)) ev_w440 ev_w438 ev_w439 ev_w71 ev_dn31 (by decide) rfl) <|
   ev_a (ok_no) <|
   ev_a (ok_no) <|
   ev_a (ok_ald_n X hP (by decide +kernel : decode cX7_begin 73 = .ok (.aload_n 0, 1)) rfl rfl) <|
   ev_a (ok_get X hP (ci := 12) (kf := 3) (T := TX7) (by decide +kernel : decode cX7_begin 74 = .ok (.getfield 21, 3)) rfl ev_in12 (by decide) ev_w169 (Or.inl rfl) rfl) <|
   ev_a (ok_no) <|
   ev_a (ok_no) <|
   ev_a (ok_ald_n X hP (by decide +kernel : decode cX7_begin 77 = .ok (.aload_n 0, 1)) rfl rfl) <|
   ev_a (ok_get X hP (ci := 12) (kf := 5) (T := TX7) (by decide +kernel : decode cX7_begin 78 = .ok (.getfield 27, 3)) rfl ev_in12 (by decide) ev_w171 (Or.inl rfl) rfl) <|
   ev_a (ok_no) <| ev_a0) <|
  ev_b (
   ev_a (ok_no) <|
   ev_a (ok_ild X hP (by decide +kernel : decode cX7_begin 81 = .ok (.iload 4, 2)) rfl) <|
   ev_a (ok_no) <|
   ev_a (ok_invSN X hP hR hd2 hcf ev_y31 (by decide +kernel : decode cX7_begin 83 = .ok (.invokestatic 45, 3)) ev_w440 ev_w438 ev_w439 ev_w71 ev_dn31 (by decide) rfl) <|
   ev_a (ok_no) <|
   ev_a (ok_no) <|
   ev_a (ok_ald_n X hP (by decide +kernel : decode cX7_begin 86 = .ok (.aload_n 0, 1)) rfl rfl) <|
   ev_a (ok_get X hP (ci := 12) (kf := 4) (T := TX7) (by decide +kernel : decode cX7_begin 87 = .ok (.getfield 24, 3)) rfl ev_in12 (by decide) ev_w170 (Or.inl rfl) rfl) <|
   ev_a (ok_no) <|
   ev_a (ok_no) <|
   ev_a (ok_ald_n X hP (by decide +kernel : decode cX7_begin 90 = .ok (.aload_n 0, 1)) rfl rfl) <|
   ev_a (ok_get X hP (ci := 12) (kf := 5) (T := TX7) (by decide +kernel : decode cX7_begin 91 = .ok (.getfield 27, 3)) rfl ev_in12 (by decide) ev_w171 (Or.inl rfl) rfl) <|
   ev_a (ok_no) <|
   ev_a (ok_no) <|
   ev_a (ok_psh_iconst X hP (by decide +kernel : decode cX7_begin 94 = .ok (.iconst (-1), 1)) rfl) <|
   ev_a (ok_invSN X hP hR hd2 hcf ev_y31 (by decide +kernel : decode cX7_begin 95 = .ok (.invokestatic 45, 3)) ev_w440 ev_w438 ev_w439 ev_w71 ev_dn31 (by decide) rfl) <| ev_a0) <|
  ev_b (
   ev_a (ok_no) <|
   ev_a (ok_no) <|
   ev_a (ok_ald_n X hP (by decide +kernel : decode cX7_begin 98 = .ok (.aload_n 0, 1)) rfl rfl) <|
   ev_a (ok_dup X hP (by decide +kernel : decode cX7_begin 99 = .ok (.dup, 1)) rfl) <|
   ev_a (ok_get X hP (ci := 12) (kf := 5) (T := TX7) (by decide +kernel : decode cX7_begin 100 = .ok (.getfield 27, 3)) rfl ev_in12 (by decide) ev_w171 (Or.inl rfl) rfl) <|
   ev_a (ok_no) <|
   ev_a (ok_no) <|
   ev_a (ok_psh_iconst X hP (by decide +kernel : decode cX7_begin 103 = .ok (.iconst 1, 1)) rfl) <|
   ev_a (ok_iadd X hP (by decide +kernel : decode cX7_begin 104 = .ok (.iadd, 1)) rfl) <|
   ev_a (ok_put X hP (ci := 12) (kf := 5) (T := TX7) tyX7 (by decide +kernel : decode cX7_begin 105 = .ok (.putfield 27, 3)) rfl ev_in12 tyX7_ok nmX7 (by decide) ev_w171 (Or.inl rfl) rfl rfl rfl) <|
   ev_a (ok_no) <|
   ev_a (ok_no) <|
   ev_a (ok_return X hP hQ hfin rfl (by decide +kernel : decode cX7_begin 108 = .ok (.return_, 1))) <| ev_a0) <|
  ev_b0
set_option maxRecDepth 100000 in
theorem ev_s65 {l : Launch} {d : Nat} {cf : Nat → List Value → ev_W → Option ev_R} {p : Program} {e : Env} {R : Room} {s : State} {m : MethodId} {args : Array Value} {below : List Frame} {meth : Method} {c : Code} {Q : State → Prop} {D : va_G} {G : Nat → ClassId} {ad : Nat → Nat} {A : Nat → Prop} {z wE nE : Nat} {P : Nat → List Value → List Value → ev_W → Nat → Prop} {α : Type} {r : α} {fin : Option Value → ev_W → Nat → Option α} (X : ev_X cX7_copyFrom 2 yX7_copyFrom.cls none p s m args meth c D G ad A z) (hP : ev_PP p l e R s m args below meth c Q 2 D G ad A z wE nE P) (hR : wE - z ≤ R.cells ∧ nE ≤ R.slots) (hd2 : d + 1 ≤ R.frames ∧ 64 * (d + 1) ≤ R.locals) (hR1 : 1 ≤ R.frames) (hR2 : 21 ≤ R.locals) (hcf : ev_cf l ev_ys d cf) {Qc : Array Value → State → Outcome → State → Prop} (hQ : Q = MQ below Qc args s (wE - z) nE A) (hfin : ∀ v w n, fin v w n = some r → w.length = wE ∧ n = nE ∧ ∀ H locs, ev_H D G ad A w H → va_S A s.heap H locs → ∀ t : State, t.heap = H → s.WarmedH t.vm → Qc args s (.returned (v.map (ev_v ad))) t) : ev_all2 (ev_ok P r) 0 (ev_o65 cf fin) :=
  ev_b (
   ev_a (ok_ald_n X hP (by decide +kernel : decode cX7_copyFrom 0 = .ok (.aload_n 0, 1)) rfl rfl) <|
   ev_a (ok_ald_n X hP (by decide +kernel : decode cX7_copyFrom 1 = .ok (.aload_n 1, 1)) rfl rfl) <|
   ev_a (ok_get X hP (ci := 12) (kf := 5) (T := TX7) (by decide +kernel : decode cX7_copyFrom 2 = .ok (.getfield 27, 3)) rfl ev_in12 (by decide) ev_w171 (Or.inl rfl) rfl) <|
   ev_a (ok_no) <|
   ev_a (ok_no) <|
   ev_a (ok_put X hP (ci := 12) (kf := 5) (T := TX7) tyX7 (by decide +kernel : decode cX7_copyFrom 5 = .ok (.putfield 27, 3)) rfl ev_in12 tyX7_ok nmX7 (by decide) ev_w171 (Or.inl rfl) rfl rfl rfl) <|
   ev_a (ok_no) <|
   ev_a (ok_no) <|
   ev_a (ok_ald_n X hP (by decide +kernel : decode cX7_copyFrom 8 = .ok (.aload_n 1, 1)) rfl rfl) <|
   ev_a (ok_get X hP (ci := 12) (kf := 0) (T := TX7) (by decide +kernel : decode cX7_copyFrom 9 = .ok (.getfield 11, 3)) rfl ev_in12 (by decide) ev_w163 (Or.inl rfl) rfl) <|
   ev_a (ok_no) <|
   ev_a (ok_no) <|
   ev_a (ok_ald_n X hP (by decide +kernel : decode cX7_copyFrom 12 = .ok (.aload_n 0, 1)) rfl rfl) <|
   ev_a (ok_get X hP (ci := 12) (kf := 0) (T := TX7) (by decide +kernel : decode cX7_copyFrom 13 = .ok (.getfield 11, 3)) rfl ev_in12 (by decide) ev_w163 (Or.inl rfl) rfl) <|
   ev_a (ok_no) <|
   ev_a (ok_no) <| ev_a0) <|
  ev_b (
   ev_a (ok_ald_n X hP (by decide +kernel : decode cX7_copyFrom 16 = .ok (.aload_n 0, 1)) rfl rfl) <|
   ev_a (ok_get X hP (ci := 12) (kf := 5) (T := TX7) (by decide +kernel : decode cX7_copyFrom 17 = .ok (.getfield 27, 3)) rfl ev_in12 (by decide) ev_w171 (Or.inl rfl) rfl) <|
   ev_a (ok_no) <|
   ev_a (ok_no) <|
   ev_a (ok_invSN X hP hR hd2 hcf ev_y27 (by decide +kernel : decode cX7_copyFrom 20 = .ok (.invokestatic 31, 3)) ev_w616 ev_w664 ev_w615 ev_w71 ev_dn27 (by decide) rfl) <|
   ev_a (ok_no) <|
   ev_a (ok_no) <|
   ev_a (ok_ald_n X hP (by decide +kernel : decode cX7_copyFrom 23 = .ok (.aload_n 1, 1)) rfl rfl) <|
   ev_a (ok_get X hP (ci := 12) (kf := 1) (T := TX7) (by decide +kernel : decode cX7_copyFrom 24 = .ok (.getfield 15, 3)) rfl ev_in12 (by decide) ev_w164 (Or.inl rfl) rfl) <|
   ev_a (ok_no) <|
   ev_a (ok_no) <|
   ev_a (ok_ald_n X hP (by decide +kernel : decode cX7_copyFrom 27 = .ok (.aload_n 0, 1)) rfl rfl) <|
   ev_a (ok_get X hP (ci := 12) (kf := 1) (T := TX7) (by decide +kernel : decode cX7_copyFrom 28 = .ok (.getfield 15, 3)) rfl ev_in12 (by decide) ev_w164 (Or.inl rfl) rfl) <|
   ev_a (ok_no) <|
   ev_a (ok_no) <|
   ev_a (ok_ald_n X hP (by decide +kernel : decode cX7_copyFrom 31 = .ok (.aload_n 0, 1)) rfl rfl) <| ev_a0) <|
  ev_b (
   ev_a (ok_get X hP (ci := 12) (kf := 5) (T := TX7) (by decide +kernel : decode cX7_copyFrom 32 = .ok (.getfield 27, 3)) rfl ev_in12 (by decide) ev_w171 (Or.inl rfl) rfl) <|
   ev_a (ok_no) <|
   ev_a (ok_no) <|
   ev_a (ok_invSN X hP hR hd2 hcf ev_y27 (by decide +kernel : decode cX7_copyFrom 35 = .ok (.invokestatic 31, 3)) ev_w616 ev_w664 ev_w615 ev_w71 ev_dn27 (by decide) rfl) <|
   ev_a (ok_no) <|
   ev_a (ok_no) <|
   ev_a (ok_ald_n X hP (by decide +kernel : decode cX7_copyFrom 38 = .ok (.aload_n 1, 1)) rfl rfl) <|
   ev_a (ok_get X hP (ci := 12) (kf := 2) (T := TX7) (by decide +kernel : decode cX7_copyFrom 39 = .ok (.getfield 18, 3)) rfl ev_in12 (by decide) ev_w167 (Or.inl rfl) rfl) <|
   ev_a (ok_no) <|
   ev_a (ok_no) <|
   ev_a (ok_ald_n X hP (by decide +kernel : decode cX7_copyFrom 42 = .ok (.aload_n 0, 1)) rfl rfl) <|
   ev_a (ok_get X hP (ci := 12) (kf := 2) (T := TX7) (by decide +kernel : decode cX7_copyFrom 43 = .ok (.getfield 18, 3)) rfl ev_in12 (by decide) ev_w167 (Or.inl rfl) rfl) <|
   ev_a (ok_no) <|
   ev_a (ok_no) <|
   ev_a (ok_ald_n X hP (by decide +kernel : decode cX7_copyFrom 46 = .ok (.aload_n 0, 1)) rfl rfl) <|
   ev_a (ok_get X hP (ci := 12) (kf := 5) (T := TX7) (by decide +kernel : decode cX7_copyFrom 47 = .ok (.getfield 27, 3)) rfl ev_in12 (by decide) ev_w171 (Or.inl rfl) rfl) <| ev_a0) <|
  ev_b (
   ev_a (ok_no) <|
   ev_a (ok_no) <|
   ev_a (ok_invSN X hP hR hd2 hcf ev_y27 (by decide +kernel : decode cX7_copyFrom 50 = .ok (.invokestatic 31, 3)) ev_w616 ev_w664 ev_w615 ev_w71 ev_dn27 (by decide) rfl) <|
   ev_a (ok_no) <|
   ev_a (ok_no) <|
   ev_a (ok_ald_n X hP (by decide +kernel : decode cX7_copyFrom 53 = .ok (.aload_n 1, 1)) rfl rfl) <|
   ev_a (ok_get X hP (ci := 12) (kf := 3) (T := TX7) (by decide +kernel : decode cX7_copyFrom 54 = .ok (.getfield 21, 3)) rfl ev_in12 (by decide) ev_w169 (Or.inl rfl) rfl) <|
   ev_a (ok_no) <|
   ev_a (ok_no) <|
   ev_a (ok_ald_n X hP (by decide +kernel : decode cX7_copyFrom 57 = .ok (.aload_n 0, 1)) rfl rfl) <|
   ev_a (ok_get X hP (ci := 12) (kf := 3) (T := TX7) (by decide +kernel : decode cX7_copyFrom 58 = .ok (.getfield 21, 3)) rfl ev_in12 (by decide) ev_w169 (Or.inl rfl) rfl) <|
   ev_a (ok_no) <|
   ev_a (ok_no) <|
   ev_a (ok_ald_n X hP (by decide +kernel : decode cX7_copyFrom 61 = .ok (.aload_n 0, 1)) rfl rfl) <|
   ev_a (ok_get X hP (ci := 12) (kf := 5) (T := TX7) (by decide +kernel : decode cX7_copyFrom 62 = .ok (.getfield 27, 3)) rfl ev_in12 (by decide) ev_w171 (Or.inl rfl) rfl) <|
   ev_a (ok_no) <| ev_a0) <|
  ev_b (
   ev_a (ok_no) <|
   ev_a (ok_invSN X hP hR hd2 hcf ev_y27 (by decide +kernel : decode cX7_copyFrom 65 = .ok (.invokestatic 31, 3)) ev_w616 ev_w664 ev_w615 ev_w71 ev_dn27 (by decide) rfl) <|
   ev_a (ok_no) <|
   ev_a (ok_no) <|
   ev_a (ok_ald_n X hP (by decide +kernel : decode cX7_copyFrom 68 = .ok (.aload_n 1, 1)) rfl rfl) <|
   ev_a (ok_get X hP (ci := 12) (kf := 4) (T := TX7) (by decide +kernel : decode cX7_copyFrom 69 = .ok (.getfield 24, 3)) rfl ev_in12 (by decide) ev_w170 (Or.inl rfl) rfl) <|
   ev_a (ok_no) <|
   ev_a (ok_no) <|
   ev_a (ok_ald_n X hP (by decide +kernel : decode cX7_copyFrom 72 = .ok (.aload_n 0, 1)) rfl rfl) <|
   ev_a (ok_get X hP (ci := 12) (kf := 4) (T := TX7) (by decide +kernel : decode cX7_copyFrom 73 = .ok (.getfield 24, 3)) rfl ev_in12 (by decide) ev_w170 (Or.inl rfl) rfl) <|
   ev_a (ok_no) <|
   ev_a (ok_no) <|
   ev_a (ok_ald_n X hP (by decide +kernel : decode cX7_copyFrom 76 = .ok (.aload_n 0, 1)) rfl rfl) <|
   ev_a (ok_get X hP (ci := 12) (kf := 5) (T := TX7) (by decide +kernel : decode cX7_copyFrom 77 = .ok (.getfield 27, 3)) rfl ev_in12 (by decide) ev_w171 (Or.inl rfl) rfl) <|
   ev_a (ok_no) <|
   ev_a (ok_no) <| ev_a0) <|
  ev_b (
   ev_a (ok_invSN X hP hR hd2 hcf ev_y27 (by decide +kernel : decode cX7_copyFrom 80 = .ok (.invokestatic 31, 3)) ev_w616 ev_w664 ev_w615 ev_w71 ev_dn27 (by decide) rfl) <|
   ev_a (ok_no) <|
   ev_a (ok_no) <|
   ev_a (ok_return X hP hQ hfin rfl (by decide +kernel : decode cX7_copyFrom 83 = .ok (.return_, 1))) <| ev_a0) <|
  ev_b0
set_option maxRecDepth 100000 in
theorem ev_s66 {l : Launch} {d : Nat} {cf : Nat → List Value → ev_W → Option ev_R} {p : Program} {e : Env} {R : Room} {s : State} {m : MethodId} {args : Array Value} {below : List Frame} {meth : Method} {c : Code} {Q : State → Prop} {D : va_G} {G : Nat → ClassId} {ad : Nat → Nat} {A : Nat → Prop} {z wE nE : Nat} {P : Nat → List Value → List Value → ev_W → Nat → Prop} {α : Type} {r : α} {fin : Option Value → ev_W → Nat → Option α} (X : ev_X cX7_end 4 yX7_end.cls none p s m args meth c D G ad A z) (hP : ev_PP p l e R s m args below meth c Q 4 D G ad A z wE nE P) (hR : wE - z ≤ R.cells ∧ nE ≤ R.slots) (hd2 : d + 1 ≤ R.frames ∧ 64 * (d + 1) ≤ R.locals) (hR1 : 1 ≤ R.frames) (hR2 : 21 ≤ R.locals) (hcf : ev_cf l ev_ys d cf) {Qc : Array Value → State → Outcome → State → Prop} (hQ : Q = MQ below Qc args s (wE - z) nE A) (hfin : ∀ v w n, fin v w n = some r → w.length = wE ∧ n = nE ∧ ∀ H locs, ev_H D G ad A w H → va_S A s.heap H locs → ∀ t : State, t.heap = H → s.WarmedH t.vm → Qc args s (.returned (v.map (ev_v ad))) t) : ev_all2 (ev_ok P r) 0 (ev_o66 cf fin) :=
  ev_b (
   ev_a (ok_psh_iconst X hP (by decide +kernel : decode cX7_end 0 = .ok (.iconst 0, 1)) rfl) <|
   ev_a (ok_ist_n X hP (by decide +kernel : decode cX7_end 1 = .ok (.istore_n 3, 1)) rfl (by decide) rfl) <|
   ev_a (ok_ild_n X hP (by decide +kernel : decode cX7_end 2 = .ok (.iload_n 3, 1)) rfl rfl) <|
   ev_a (ok_ald_n X hP (by decide +kernel : decode cX7_end 3 = .ok (.aload_n 0, 1)) rfl rfl) <|
   ev_a (ok_get X hP (ci := 12) (kf := 5) (T := TX7) (by decide +kernel : decode cX7_end 4 = .ok (.getfield 27, 3)) rfl ev_in12 (by decide) ev_w171 (Or.inl rfl) rfl) <|
   ev_a (ok_no) <|
   ev_a (ok_no) <|
   ev_a (ok_icmp_ge X hP (by decide +kernel : decode cX7_end 7 = .ok (.if_icmp .ge 39, 3)) (by decide) rfl) <|
   ev_a (ok_no) <|
   ev_a (ok_no) <|
   ev_a (ok_ald_n X hP (by decide +kernel : decode cX7_end 10 = .ok (.aload_n 0, 1)) rfl rfl) <|
   ev_a (ok_ild_n X hP (by decide +kernel : decode cX7_end 11 = .ok (.iload_n 3, 1)) rfl rfl) <|
   ev_a (ok_invV X hP hR hd2 hcf (ci := 12) ev_y69 rfl (by decide +kernel : decode cX7_end 12 = .ok (.invokevirtual 62, 3)) ev_w463 ev_w460 ev_w461 ev_w462 ev_w74 ⟨rfl, ev_dn69⟩ (by decide) rfl) <|
   ev_a (ok_no) <|
   ev_a (ok_no) <|
   ev_a (ok_if_eq X hP (by decide +kernel : decode cX7_end 15 = .ok (.ifCond .eq 25, 3)) (by decide) rfl) <| ev_a0) <|
  ev_b (
   ev_a (ok_no) <|
   ev_a (ok_no) <|
   ev_a (ok_ald_n X hP (by decide +kernel : decode cX7_end 18 = .ok (.aload_n 0, 1)) rfl rfl) <|
   ev_a (ok_get X hP (ci := 12) (kf := 1) (T := TX7) (by decide +kernel : decode cX7_end 19 = .ok (.getfield 15, 3)) rfl ev_in12 (by decide) ev_w164 (Or.inl rfl) rfl) <|
   ev_a (ok_no) <|
   ev_a (ok_no) <|
   ev_a (ok_ild_n X hP (by decide +kernel : decode cX7_end 22 = .ok (.iload_n 3, 1)) rfl rfl) <|
   ev_a (ok_psh_iconst X hP (by decide +kernel : decode cX7_end 23 = .ok (.iconst (-1), 1)) rfl) <|
   ev_a (ok_invSN X hP hR hd2 hcf ev_y22 (by decide +kernel : decode cX7_end 24 = .ok (.invokestatic 35, 3)) ev_w423 ev_w433 ev_w422 ev_w71 ev_dn22 (by decide) rfl) <|
   ev_a (ok_no) <|
   ev_a (ok_no) <|
   ev_a (ok_ild_n X hP (by decide +kernel : decode cX7_end 27 = .ok (.iload_n 1, 1)) rfl rfl) <|
   ev_a (ok_icmp_ne X hP (by decide +kernel : decode cX7_end 28 = .ok (.if_icmp .ne 12, 3)) (by decide) rfl) <|
   ev_a (ok_no) <|
   ev_a (ok_no) <|
   ev_a (ok_ald_n X hP (by decide +kernel : decode cX7_end 31 = .ok (.aload_n 0, 1)) rfl rfl) <| ev_a0) <|
  ev_b (
   ev_a (ok_get X hP (ci := 12) (kf := 4) (T := TX7) (by decide +kernel : decode cX7_end 32 = .ok (.getfield 24, 3)) rfl ev_in12 (by decide) ev_w170 (Or.inl rfl) rfl) <|
   ev_a (ok_no) <|
   ev_a (ok_no) <|
   ev_a (ok_ild_n X hP (by decide +kernel : decode cX7_end 35 = .ok (.iload_n 3, 1)) rfl rfl) <|
   ev_a (ok_ild_n X hP (by decide +kernel : decode cX7_end 36 = .ok (.iload_n 2, 1)) rfl rfl) <|
   ev_a (ok_invSN X hP hR hd2 hcf ev_y31 (by decide +kernel : decode cX7_end 37 = .ok (.invokestatic 45, 3)) ev_w440 ev_w438 ev_w439 ev_w71 ev_dn31 (by decide) rfl) <|
   ev_a (ok_no) <|
   ev_a (ok_no) <|
   ev_a (ok_inc X hP (by decide +kernel : decode cX7_end 40 = .ok (.iinc 3 1, 3)) (by decide) rfl) <|
   ev_a (ok_no) <|
   ev_a (ok_no) <|
   ev_a (ok_jmp X hP (by decide +kernel : decode cX7_end 43 = .ok (.goto (-41), 3)) (by decide)) <|
   ev_a (ok_no) <|
   ev_a (ok_no) <|
   ev_a (ok_return X hP hQ hfin rfl (by decide +kernel : decode cX7_end 46 = .ok (.return_, 1))) <| ev_a0) <|
  ev_b0
set_option maxRecDepth 100000 in
theorem ev_s67 {l : Launch} {d : Nat} {cf : Nat → List Value → ev_W → Option ev_R} {p : Program} {e : Env} {R : Room} {s : State} {m : MethodId} {args : Array Value} {below : List Frame} {meth : Method} {c : Code} {Q : State → Prop} {D : va_G} {G : Nat → ClassId} {ad : Nat → Nat} {A : Nat → Prop} {z wE nE : Nat} {P : Nat → List Value → List Value → ev_W → Nat → Prop} {α : Type} {r : α} {fin : Option Value → ev_W → Nat → Option α} (X : ev_X cX7_holdsIn 3 yX7_holdsIn.cls (some FieldType.boolean) p s m args meth c D G ad A z) (hP : ev_PP p l e R s m args below meth c Q 3 D G ad A z wE nE P) (hR : wE - z ≤ R.cells ∧ nE ≤ R.slots) (hd2 : d + 1 ≤ R.frames ∧ 64 * (d + 1) ≤ R.locals) (hR1 : 1 ≤ R.frames) (hR2 : 21 ≤ R.locals) (hcf : ev_cf l ev_ys d cf) {Qc : Array Value → State → Outcome → State → Prop} (hQ : Q = MQ below Qc args s (wE - z) nE A) (hfin : ∀ v w n, fin v w n = some r → w.length = wE ∧ n = nE ∧ ∀ H locs, ev_H D G ad A w H → va_S A s.heap H locs → ∀ t : State, t.heap = H → s.WarmedH t.vm → Qc args s (.returned (v.map (ev_v ad))) t) : ev_all2 (ev_ok P r) 0 (ev_o67 cf fin) :=
  ev_b (
   ev_a (ok_ald_n X hP (by decide +kernel : decode cX7_holdsIn 0 = .ok (.aload_n 0, 1)) rfl rfl) <|
   ev_a (ok_get X hP (ci := 12) (kf := 3) (T := TX7) (by decide +kernel : decode cX7_holdsIn 1 = .ok (.getfield 21, 3)) rfl ev_in12 (by decide) ev_w169 (Or.inl rfl) rfl) <|
   ev_a (ok_no) <|
   ev_a (ok_no) <|
   ev_a (ok_ild_n X hP (by decide +kernel : decode cX7_holdsIn 4 = .ok (.iload_n 1, 1)) rfl rfl) <|
   ev_a (ok_psh_iconst X hP (by decide +kernel : decode cX7_holdsIn 5 = .ok (.iconst 0, 1)) rfl) <|
   ev_a (ok_invSN X hP hR hd2 hcf ev_y22 (by decide +kernel : decode cX7_holdsIn 6 = .ok (.invokestatic 35, 3)) ev_w423 ev_w433 ev_w422 ev_w71 ev_dn22 (by decide) rfl) <|
   ev_a (ok_no) <|
   ev_a (ok_no) <|
   ev_a (ok_ild_n X hP (by decide +kernel : decode cX7_holdsIn 9 = .ok (.iload_n 2, 1)) rfl rfl) <|
   ev_a (ok_icmp_gt X hP (by decide +kernel : decode cX7_holdsIn 10 = .ok (.if_icmp .gt 28, 3)) (by decide) rfl) <|
   ev_a (ok_no) <|
   ev_a (ok_no) <|
   ev_a (ok_ald_n X hP (by decide +kernel : decode cX7_holdsIn 13 = .ok (.aload_n 0, 1)) rfl rfl) <|
   ev_a (ok_ild_n X hP (by decide +kernel : decode cX7_holdsIn 14 = .ok (.iload_n 1, 1)) rfl rfl) <|
   ev_a (ok_invV X hP hR hd2 hcf (ci := 12) ev_y69 rfl (by decide +kernel : decode cX7_holdsIn 15 = .ok (.invokevirtual 62, 3)) ev_w463 ev_w460 ev_w461 ev_w462 ev_w74 ⟨rfl, ev_dn69⟩ (by decide) rfl) <| ev_a0) <|
  ev_b (
   ev_a (ok_no) <|
   ev_a (ok_no) <|
   ev_a (ok_if_ne X hP (by decide +kernel : decode cX7_holdsIn 18 = .ok (.ifCond .ne 16, 3)) (by decide) rfl) <|
   ev_a (ok_no) <|
   ev_a (ok_no) <|
   ev_a (ok_ild_n X hP (by decide +kernel : decode cX7_holdsIn 21 = .ok (.iload_n 2, 1)) rfl rfl) <|
   ev_a (ok_ald_n X hP (by decide +kernel : decode cX7_holdsIn 22 = .ok (.aload_n 0, 1)) rfl rfl) <|
   ev_a (ok_get X hP (ci := 12) (kf := 4) (T := TX7) (by decide +kernel : decode cX7_holdsIn 23 = .ok (.getfield 24, 3)) rfl ev_in12 (by decide) ev_w170 (Or.inl rfl) rfl) <|
   ev_a (ok_no) <|
   ev_a (ok_no) <|
   ev_a (ok_ild_n X hP (by decide +kernel : decode cX7_holdsIn 26 = .ok (.iload_n 1, 1)) rfl rfl) <|
   ev_a (ok_psh_iconst X hP (by decide +kernel : decode cX7_holdsIn 27 = .ok (.iconst 0, 1)) rfl) <|
   ev_a (ok_invSN X hP hR hd2 hcf ev_y22 (by decide +kernel : decode cX7_holdsIn 28 = .ok (.invokestatic 35, 3)) ev_w423 ev_w433 ev_w422 ev_w71 ev_dn22 (by decide) rfl) <|
   ev_a (ok_no) <|
   ev_a (ok_no) <|
   ev_a (ok_icmp_ge X hP (by decide +kernel : decode cX7_holdsIn 31 = .ok (.if_icmp .ge 7, 3)) (by decide) rfl) <| ev_a0) <|
  ev_b (
   ev_a (ok_no) <|
   ev_a (ok_no) <|
   ev_a (ok_psh_iconst X hP (by decide +kernel : decode cX7_holdsIn 34 = .ok (.iconst 1, 1)) rfl) <|
   ev_a (ok_jmp X hP (by decide +kernel : decode cX7_holdsIn 35 = .ok (.goto 4, 3)) (by decide)) <|
   ev_a (ok_no) <|
   ev_a (ok_no) <|
   ev_a (ok_psh_iconst X hP (by decide +kernel : decode cX7_holdsIn 38 = .ok (.iconst 0, 1)) rfl) <|
   ev_a (ok_zreturn X hP hQ hfin rfl (by decide +kernel : decode cX7_holdsIn 39 = .ok (.ireturn, 1))) <| ev_a0) <|
  ev_b0
set_option maxRecDepth 100000 in
theorem ev_s68 {l : Launch} {d : Nat} {cf : Nat → List Value → ev_W → Option ev_R} {p : Program} {e : Env} {R : Room} {s : State} {m : MethodId} {args : Array Value} {below : List Frame} {meth : Method} {c : Code} {Q : State → Prop} {D : va_G} {G : Nat → ClassId} {ad : Nat → Nat} {A : Nat → Prop} {z wE nE : Nat} {P : Nat → List Value → List Value → ev_W → Nat → Prop} {α : Type} {r : α} {fin : Option Value → ev_W → Nat → Option α} (X : ev_X cX7_init 1 yX7_init.cls none p s m args meth c D G ad A z) (hP : ev_PP p l e R s m args below meth c Q 1 D G ad A z wE nE P) (hR : wE - z ≤ R.cells ∧ nE ≤ R.slots) (hd2 : d + 1 ≤ R.frames ∧ 64 * (d + 1) ≤ R.locals) (hR1 : 1 ≤ R.frames) (hR2 : 21 ≤ R.locals) (hcf : ev_cf l ev_ys d cf) (hin2 : meth.name = "<init>") {Qc : Array Value → State → Outcome → State → Prop} (hQ : Q = MQ below Qc args s (wE - z) nE A) (hfin : ∀ v w n, fin v w n = some r → w.length = wE ∧ n = nE ∧ ∀ H locs, ev_H D G ad A w H → va_S A s.heap H locs → ∀ t : State, t.heap = H → s.WarmedH t.vm → Qc args s (.returned (v.map (ev_v ad))) t) : ev_all2 (ev_ok P r) 0 (ev_o68 cf fin) :=
  ev_b (
   ev_a (ok_ald_n X hP (by decide +kernel : decode cX7_init 0 = .ok (.aload_n 0, 1)) rfl rfl) <|
   ev_a (ok_obj X hP hR1 hR2 (by decide +kernel : decode cX7_init 1 = .ok (.invokespecial 3, 3)) ev_w162 ev_w115 ev_w116 rfl) <|
   ev_a (ok_no) <|
   ev_a (ok_no) <|
   ev_a (ok_ald_n X hP (by decide +kernel : decode cX7_init 4 = .ok (.aload_n 0, 1)) rfl rfl) <|
   ev_a (ok_psh_bipush X hP (by decide +kernel : decode cX7_init 5 = .ok (.bipush 72, 2)) rfl) <|
   ev_a (ok_no) <|
   ev_a (ok_newarray X hP hR (by decide +kernel : decode cX7_init 7 = .ok (.newarray .int, 2)) (Or.inl ⟨rfl, rfl, rfl⟩) ev_w136 rfl) <|
   ev_a (ok_no) <|
   ev_a (ok_putF X hP hin2 (ci := 12) (kf := 0) (T := TX7) tyX7 (by decide +kernel : decode cX7_init 9 = .ok (.putfield 11, 3)) rfl ev_in12 tyX7_ok nmX7 (by decide) ev_w163 (Or.inl rfl) rfl rfl rfl rfl) <|
   ev_a (ok_no) <|
   ev_a (ok_no) <|
   ev_a (ok_ald_n X hP (by decide +kernel : decode cX7_init 12 = .ok (.aload_n 0, 1)) rfl rfl) <|
   ev_a (ok_psh_bipush X hP (by decide +kernel : decode cX7_init 13 = .ok (.bipush 72, 2)) rfl) <|
   ev_a (ok_no) <|
   ev_a (ok_newarray X hP hR (by decide +kernel : decode cX7_init 15 = .ok (.newarray .int, 2)) (Or.inl ⟨rfl, rfl, rfl⟩) ev_w136 rfl) <| ev_a0) <|
  ev_b (
   ev_a (ok_no) <|
   ev_a (ok_putF X hP hin2 (ci := 12) (kf := 1) (T := TX7) tyX7 (by decide +kernel : decode cX7_init 17 = .ok (.putfield 15, 3)) rfl ev_in12 tyX7_ok nmX7 (by decide) ev_w164 (Or.inl rfl) rfl rfl rfl rfl) <|
   ev_a (ok_no) <|
   ev_a (ok_no) <|
   ev_a (ok_ald_n X hP (by decide +kernel : decode cX7_init 20 = .ok (.aload_n 0, 1)) rfl rfl) <|
   ev_a (ok_psh_bipush X hP (by decide +kernel : decode cX7_init 21 = .ok (.bipush 72, 2)) rfl) <|
   ev_a (ok_no) <|
   ev_a (ok_newarray X hP hR (by decide +kernel : decode cX7_init 23 = .ok (.newarray .int, 2)) (Or.inl ⟨rfl, rfl, rfl⟩) ev_w136 rfl) <|
   ev_a (ok_no) <|
   ev_a (ok_putF X hP hin2 (ci := 12) (kf := 2) (T := TX7) tyX7 (by decide +kernel : decode cX7_init 25 = .ok (.putfield 18, 3)) rfl ev_in12 tyX7_ok nmX7 (by decide) ev_w167 (Or.inl rfl) rfl rfl rfl rfl) <|
   ev_a (ok_no) <|
   ev_a (ok_no) <|
   ev_a (ok_ald_n X hP (by decide +kernel : decode cX7_init 28 = .ok (.aload_n 0, 1)) rfl rfl) <|
   ev_a (ok_psh_bipush X hP (by decide +kernel : decode cX7_init 29 = .ok (.bipush 72, 2)) rfl) <|
   ev_a (ok_no) <|
   ev_a (ok_newarray X hP hR (by decide +kernel : decode cX7_init 31 = .ok (.newarray .int, 2)) (Or.inl ⟨rfl, rfl, rfl⟩) ev_w136 rfl) <| ev_a0) <|
  ev_b (
   ev_a (ok_no) <|
   ev_a (ok_putF X hP hin2 (ci := 12) (kf := 3) (T := TX7) tyX7 (by decide +kernel : decode cX7_init 33 = .ok (.putfield 21, 3)) rfl ev_in12 tyX7_ok nmX7 (by decide) ev_w169 (Or.inl rfl) rfl rfl rfl rfl) <|
   ev_a (ok_no) <|
   ev_a (ok_no) <|
   ev_a (ok_ald_n X hP (by decide +kernel : decode cX7_init 36 = .ok (.aload_n 0, 1)) rfl rfl) <|
   ev_a (ok_psh_bipush X hP (by decide +kernel : decode cX7_init 37 = .ok (.bipush 72, 2)) rfl) <|
   ev_a (ok_no) <|
   ev_a (ok_newarray X hP hR (by decide +kernel : decode cX7_init 39 = .ok (.newarray .int, 2)) (Or.inl ⟨rfl, rfl, rfl⟩) ev_w136 rfl) <|
   ev_a (ok_no) <|
   ev_a (ok_putF X hP hin2 (ci := 12) (kf := 4) (T := TX7) tyX7 (by decide +kernel : decode cX7_init 41 = .ok (.putfield 24, 3)) rfl ev_in12 tyX7_ok nmX7 (by decide) ev_w170 (Or.inl rfl) rfl rfl rfl rfl) <|
   ev_a (ok_no) <|
   ev_a (ok_no) <|
   ev_a (ok_return X hP hQ hfin rfl (by decide +kernel : decode cX7_init 44 = .ok (.return_, 1))) <| ev_a0) <|
  ev_b0
set_option maxRecDepth 100000 in
theorem ev_s69 {l : Launch} {d : Nat} {cf : Nat → List Value → ev_W → Option ev_R} {p : Program} {e : Env} {R : Room} {s : State} {m : MethodId} {args : Array Value} {below : List Frame} {meth : Method} {c : Code} {Q : State → Prop} {D : va_G} {G : Nat → ClassId} {ad : Nat → Nat} {A : Nat → Prop} {z wE nE : Nat} {P : Nat → List Value → List Value → ev_W → Nat → Prop} {α : Type} {r : α} {fin : Option Value → ev_W → Nat → Option α} (X : ev_X cX7_isOpen 2 yX7_isOpen.cls (some FieldType.boolean) p s m args meth c D G ad A z) (hP : ev_PP p l e R s m args below meth c Q 2 D G ad A z wE nE P) (hR : wE - z ≤ R.cells ∧ nE ≤ R.slots) (hd2 : d + 1 ≤ R.frames ∧ 64 * (d + 1) ≤ R.locals) (hR1 : 1 ≤ R.frames) (hR2 : 21 ≤ R.locals) (hcf : ev_cf l ev_ys d cf) {Qc : Array Value → State → Outcome → State → Prop} (hQ : Q = MQ below Qc args s (wE - z) nE A) (hfin : ∀ v w n, fin v w n = some r → w.length = wE ∧ n = nE ∧ ∀ H locs, ev_H D G ad A w H → va_S A s.heap H locs → ∀ t : State, t.heap = H → s.WarmedH t.vm → Qc args s (.returned (v.map (ev_v ad))) t) : ev_all2 (ev_ok P r) 0 (ev_o69 cf fin) :=
  ev_b (
   ev_a (ok_ald_n X hP (by decide +kernel : decode cX7_isOpen 0 = .ok (.aload_n 0, 1)) rfl rfl) <|
   ev_a (ok_get X hP (ci := 12) (kf := 4) (T := TX7) (by decide +kernel : decode cX7_isOpen 1 = .ok (.getfield 24, 3)) rfl ev_in12 (by decide) ev_w170 (Or.inl rfl) rfl) <|
   ev_a (ok_no) <|
   ev_a (ok_no) <|
   ev_a (ok_ild_n X hP (by decide +kernel : decode cX7_isOpen 4 = .ok (.iload_n 1, 1)) rfl rfl) <|
   ev_a (ok_psh_iconst X hP (by decide +kernel : decode cX7_isOpen 5 = .ok (.iconst 0, 1)) rfl) <|
   ev_a (ok_invSN X hP hR hd2 hcf ev_y22 (by decide +kernel : decode cX7_isOpen 6 = .ok (.invokestatic 35, 3)) ev_w423 ev_w433 ev_w422 ev_w71 ev_dn22 (by decide) rfl) <|
   ev_a (ok_no) <|
   ev_a (ok_no) <|
   ev_a (ok_psh_iconst X hP (by decide +kernel : decode cX7_isOpen 9 = .ok (.iconst (-1), 1)) rfl) <|
   ev_a (ok_icmp_ne X hP (by decide +kernel : decode cX7_isOpen 10 = .ok (.if_icmp .ne 7, 3)) (by decide) rfl) <|
   ev_a (ok_no) <|
   ev_a (ok_no) <|
   ev_a (ok_psh_iconst X hP (by decide +kernel : decode cX7_isOpen 13 = .ok (.iconst 1, 1)) rfl) <|
   ev_a (ok_jmp X hP (by decide +kernel : decode cX7_isOpen 14 = .ok (.goto 4, 3)) (by decide)) <|
   ev_a (ok_no) <| ev_a0) <|
  ev_b (
   ev_a (ok_no) <|
   ev_a (ok_psh_iconst X hP (by decide +kernel : decode cX7_isOpen 17 = .ok (.iconst 0, 1)) rfl) <|
   ev_a (ok_zreturn X hP hQ hfin rfl (by decide +kernel : decode cX7_isOpen 18 = .ok (.ireturn, 1))) <| ev_a0) <|
  ev_b0
set_option maxRecDepth 100000 in
theorem ev_s70 {l : Launch} {d : Nat} {cf : Nat → List Value → ev_W → Option ev_R} {p : Program} {e : Env} {R : Room} {s : State} {m : MethodId} {args : Array Value} {below : List Frame} {meth : Method} {c : Code} {Q : State → Prop} {D : va_G} {G : Nat → ClassId} {ad : Nat → Nat} {A : Nat → Prop} {z wE nE : Nat} {P : Nat → List Value → List Value → ev_W → Nat → Prop} {α : Type} {r : α} {fin : Option Value → ev_W → Nat → Option α} (X : ev_X cX7_openRowOf 3 yX7_openRowOf.cls (some FieldType.int) p s m args meth c D G ad A z) (hP : ev_PP p l e R s m args below meth c Q 3 D G ad A z wE nE P) (hR : wE - z ≤ R.cells ∧ nE ≤ R.slots) (hd2 : d + 1 ≤ R.frames ∧ 64 * (d + 1) ≤ R.locals) (hR1 : 1 ≤ R.frames) (hR2 : 21 ≤ R.locals) (hcf : ev_cf l ev_ys d cf) {Qc : Array Value → State → Outcome → State → Prop} (hQ : Q = MQ below Qc args s (wE - z) nE A) (hfin : ∀ v w n, fin v w n = some r → w.length = wE ∧ n = nE ∧ ∀ H locs, ev_H D G ad A w H → va_S A s.heap H locs → ∀ t : State, t.heap = H → s.WarmedH t.vm → Qc args s (.returned (v.map (ev_v ad))) t) : ev_all2 (ev_ok P r) 0 (ev_o70 cf fin) :=
  ev_b (
   ev_a (ok_psh_iconst X hP (by decide +kernel : decode cX7_openRowOf 0 = .ok (.iconst 0, 1)) rfl) <|
   ev_a (ok_ist_n X hP (by decide +kernel : decode cX7_openRowOf 1 = .ok (.istore_n 2, 1)) rfl (by decide) rfl) <|
   ev_a (ok_ild_n X hP (by decide +kernel : decode cX7_openRowOf 2 = .ok (.iload_n 2, 1)) rfl rfl) <|
   ev_a (ok_ald_n X hP (by decide +kernel : decode cX7_openRowOf 3 = .ok (.aload_n 0, 1)) rfl rfl) <|
   ev_a (ok_get X hP (ci := 12) (kf := 5) (T := TX7) (by decide +kernel : decode cX7_openRowOf 4 = .ok (.getfield 27, 3)) rfl ev_in12 (by decide) ev_w171 (Or.inl rfl) rfl) <|
   ev_a (ok_no) <|
   ev_a (ok_no) <|
   ev_a (ok_icmp_ge X hP (by decide +kernel : decode cX7_openRowOf 7 = .ok (.if_icmp .ge 32, 3)) (by decide) rfl) <|
   ev_a (ok_no) <|
   ev_a (ok_no) <|
   ev_a (ok_ald_n X hP (by decide +kernel : decode cX7_openRowOf 10 = .ok (.aload_n 0, 1)) rfl rfl) <|
   ev_a (ok_ild_n X hP (by decide +kernel : decode cX7_openRowOf 11 = .ok (.iload_n 2, 1)) rfl rfl) <|
   ev_a (ok_invV X hP hR hd2 hcf (ci := 12) ev_y69 rfl (by decide +kernel : decode cX7_openRowOf 12 = .ok (.invokevirtual 62, 3)) ev_w463 ev_w460 ev_w461 ev_w462 ev_w74 ⟨rfl, ev_dn69⟩ (by decide) rfl) <|
   ev_a (ok_no) <|
   ev_a (ok_no) <|
   ev_a (ok_if_eq X hP (by decide +kernel : decode cX7_openRowOf 15 = .ok (.ifCond .eq 18, 3)) (by decide) rfl) <| ev_a0) <|
  ev_b (
   ev_a (ok_no) <|
   ev_a (ok_no) <|
   ev_a (ok_ald_n X hP (by decide +kernel : decode cX7_openRowOf 18 = .ok (.aload_n 0, 1)) rfl rfl) <|
   ev_a (ok_get X hP (ci := 12) (kf := 0) (T := TX7) (by decide +kernel : decode cX7_openRowOf 19 = .ok (.getfield 11, 3)) rfl ev_in12 (by decide) ev_w163 (Or.inl rfl) rfl) <|
   ev_a (ok_no) <|
   ev_a (ok_no) <|
   ev_a (ok_ild_n X hP (by decide +kernel : decode cX7_openRowOf 22 = .ok (.iload_n 2, 1)) rfl rfl) <|
   ev_a (ok_psh_iconst X hP (by decide +kernel : decode cX7_openRowOf 23 = .ok (.iconst (-1), 1)) rfl) <|
   ev_a (ok_invSN X hP hR hd2 hcf ev_y22 (by decide +kernel : decode cX7_openRowOf 24 = .ok (.invokestatic 35, 3)) ev_w423 ev_w433 ev_w422 ev_w71 ev_dn22 (by decide) rfl) <|
   ev_a (ok_no) <|
   ev_a (ok_no) <|
   ev_a (ok_ild_n X hP (by decide +kernel : decode cX7_openRowOf 27 = .ok (.iload_n 1, 1)) rfl rfl) <|
   ev_a (ok_icmp_ne X hP (by decide +kernel : decode cX7_openRowOf 28 = .ok (.if_icmp .ne 5, 3)) (by decide) rfl) <|
   ev_a (ok_no) <|
   ev_a (ok_no) <|
   ev_a (ok_ild_n X hP (by decide +kernel : decode cX7_openRowOf 31 = .ok (.iload_n 2, 1)) rfl rfl) <| ev_a0) <|
  ev_b (
   ev_a (ok_ireturn X hP hQ hfin rfl (by decide +kernel : decode cX7_openRowOf 32 = .ok (.ireturn, 1))) <|
   ev_a (ok_inc X hP (by decide +kernel : decode cX7_openRowOf 33 = .ok (.iinc 2 1, 3)) (by decide) rfl) <|
   ev_a (ok_no) <|
   ev_a (ok_no) <|
   ev_a (ok_jmp X hP (by decide +kernel : decode cX7_openRowOf 36 = .ok (.goto (-34), 3)) (by decide)) <|
   ev_a (ok_no) <|
   ev_a (ok_no) <|
   ev_a (ok_psh_iconst X hP (by decide +kernel : decode cX7_openRowOf 39 = .ok (.iconst (-1), 1)) rfl) <|
   ev_a (ok_ireturn X hP hQ hfin rfl (by decide +kernel : decode cX7_openRowOf 40 = .ok (.ireturn, 1))) <| ev_a0) <|
  ev_b0
set_option maxRecDepth 100000 in
theorem ev_s71 {l : Launch} {d : Nat} {cf : Nat → List Value → ev_W → Option ev_R} {p : Program} {e : Env} {R : Room} {s : State} {m : MethodId} {args : Array Value} {below : List Frame} {meth : Method} {c : Code} {Q : State → Prop} {D : va_G} {G : Nat → ClassId} {ad : Nat → Nat} {A : Nat → Prop} {z wE nE : Nat} {P : Nat → List Value → List Value → ev_W → Nat → Prop} {α : Type} {r : α} {fin : Option Value → ev_W → Nat → Option α} (X : ev_X cX7_take 7 yX7_take.cls none p s m args meth c D G ad A z) (hP : ev_PP p l e R s m args below meth c Q 7 D G ad A z wE nE P) (hR : wE - z ≤ R.cells ∧ nE ≤ R.slots) (hd2 : d + 1 ≤ R.frames ∧ 64 * (d + 1) ≤ R.locals) (hR1 : 1 ≤ R.frames) (hR2 : 21 ≤ R.locals) (hcf : ev_cf l ev_ys d cf) {Qc : Array Value → State → Outcome → State → Prop} (hQ : Q = MQ below Qc args s (wE - z) nE A) (hfin : ∀ v w n, fin v w n = some r → w.length = wE ∧ n = nE ∧ ∀ H locs, ev_H D G ad A w H → va_S A s.heap H locs → ∀ t : State, t.heap = H → s.WarmedH t.vm → Qc args s (.returned (v.map (ev_v ad))) t) : ev_all2 (ev_ok P r) 0 (ev_o71 cf fin) :=
  ev_b (
   ev_a (ok_psh_iconst X hP (by decide +kernel : decode cX7_take 0 = .ok (.iconst 0, 1)) rfl) <|
   ev_a (ok_ist X hP (by decide +kernel : decode cX7_take 1 = .ok (.istore 4, 2)) (by decide) rfl) <|
   ev_a (ok_no) <|
   ev_a (ok_ild X hP (by decide +kernel : decode cX7_take 3 = .ok (.iload 4, 2)) rfl) <|
   ev_a (ok_no) <|
   ev_a (ok_ald_n X hP (by decide +kernel : decode cX7_take 5 = .ok (.aload_n 1, 1)) rfl rfl) <|
   ev_a (ok_getN X hP (ci := 5) (kf := 2) (T := TX0) (by decide +kernel : decode cX7_take 6 = .ok (.getfield 49, 3)) rfl ev_in5 (by decide) ev_w148 (Or.inl rfl) rfl) <|
   ev_a (ok_no) <|
   ev_a (ok_no) <|
   ev_a (ok_icmp_ge X hP (by decide +kernel : decode cX7_take 9 = .ok (.if_icmp .ge 67, 3)) (by decide) rfl) <|
   ev_a (ok_no) <|
   ev_a (ok_no) <|
   ev_a (ok_ald_n X hP (by decide +kernel : decode cX7_take 12 = .ok (.aload_n 1, 1)) rfl rfl) <|
   ev_a (ok_getN X hP (ci := 5) (kf := 0) (T := TX0) (by decide +kernel : decode cX7_take 13 = .ok (.getfield 52, 3)) rfl ev_in5 (by decide) ev_w144 (Or.inl rfl) rfl) <|
   ev_a (ok_no) <|
   ev_a (ok_no) <| ev_a0) <|
  ev_b (
   ev_a (ok_ild X hP (by decide +kernel : decode cX7_take 16 = .ok (.iload 4, 2)) rfl) <|
   ev_a (ok_no) <|
   ev_a (ok_psh_iconst X hP (by decide +kernel : decode cX7_take 18 = .ok (.iconst 0, 1)) rfl) <|
   ev_a (ok_invSN X hP hR hd2 hcf ev_y22 (by decide +kernel : decode cX7_take 19 = .ok (.invokestatic 35, 3)) ev_w423 ev_w433 ev_w422 ev_w71 ev_dn22 (by decide) rfl) <|
   ev_a (ok_no) <|
   ev_a (ok_no) <|
   ev_a (ok_ist X hP (by decide +kernel : decode cX7_take 22 = .ok (.istore 5, 2)) (by decide) rfl) <|
   ev_a (ok_no) <|
   ev_a (ok_ald_n X hP (by decide +kernel : decode cX7_take 24 = .ok (.aload_n 1, 1)) rfl rfl) <|
   ev_a (ok_getN X hP (ci := 5) (kf := 1) (T := TX0) (by decide +kernel : decode cX7_take 25 = .ok (.getfield 53, 3)) rfl ev_in5 (by decide) ev_w146 (Or.inl rfl) rfl) <|
   ev_a (ok_no) <|
   ev_a (ok_no) <|
   ev_a (ok_ild X hP (by decide +kernel : decode cX7_take 28 = .ok (.iload 4, 2)) rfl) <|
   ev_a (ok_no) <|
   ev_a (ok_psh_iconst X hP (by decide +kernel : decode cX7_take 30 = .ok (.iconst 0, 1)) rfl) <|
   ev_a (ok_invSN X hP hR hd2 hcf ev_y22 (by decide +kernel : decode cX7_take 31 = .ok (.invokestatic 35, 3)) ev_w423 ev_w433 ev_w422 ev_w71 ev_dn22 (by decide) rfl) <| ev_a0) <|
  ev_b (
   ev_a (ok_no) <|
   ev_a (ok_no) <|
   ev_a (ok_ist X hP (by decide +kernel : decode cX7_take 34 = .ok (.istore 6, 2)) (by decide) rfl) <|
   ev_a (ok_no) <|
   ev_a (ok_ild X hP (by decide +kernel : decode cX7_take 36 = .ok (.iload 6, 2)) rfl) <|
   ev_a (ok_no) <|
   ev_a (ok_if_ne X hP (by decide +kernel : decode cX7_take 38 = .ok (.ifCond .ne 17, 3)) (by decide) rfl) <|
   ev_a (ok_no) <|
   ev_a (ok_no) <|
   ev_a (ok_ald_n X hP (by decide +kernel : decode cX7_take 41 = .ok (.aload_n 0, 1)) rfl rfl) <|
   ev_a (ok_ald_n X hP (by decide +kernel : decode cX7_take 42 = .ok (.aload_n 3, 1)) rfl rfl) <|
   ev_a (ok_ild X hP (by decide +kernel : decode cX7_take 43 = .ok (.iload 5, 2)) rfl) <|
   ev_a (ok_no) <|
   ev_a (ok_invV X hP hR hd2 hcf (ci := 9) ev_y59 rfl (by decide +kernel : decode cX7_take 45 = .ok (.invokevirtual 39, 3)) ev_w437 ev_w434 ev_w435 ev_w436 ev_w72 ⟨rfl, ev_dn59⟩ (by decide) rfl) <|
   ev_a (ok_no) <|
   ev_a (ok_no) <| ev_a0) <|
  ev_b (
   ev_a (ok_ild_n X hP (by decide +kernel : decode cX7_take 48 = .ok (.iload_n 2, 1)) rfl rfl) <|
   ev_a (ok_invV X hP hR hd2 hcf (ci := 12) ev_y66 rfl (by decide +kernel : decode cX7_take 49 = .ok (.invokevirtual 54, 3)) ev_w672 ev_w669 ev_w671 ev_w20 ev_w74 ⟨rfl, ev_dn66⟩ (by decide) rfl) <|
   ev_a (ok_no) <|
   ev_a (ok_no) <|
   ev_a (ok_jmp X hP (by decide +kernel : decode cX7_take 52 = .ok (.goto 18, 3)) (by decide)) <|
   ev_a (ok_no) <|
   ev_a (ok_no) <|
   ev_a (ok_ald_n X hP (by decide +kernel : decode cX7_take 55 = .ok (.aload_n 0, 1)) rfl rfl) <|
   ev_a (ok_ild X hP (by decide +kernel : decode cX7_take 56 = .ok (.iload 5, 2)) rfl) <|
   ev_a (ok_no) <|
   ev_a (ok_ald_n X hP (by decide +kernel : decode cX7_take 58 = .ok (.aload_n 3, 1)) rfl rfl) <|
   ev_a (ok_ild X hP (by decide +kernel : decode cX7_take 59 = .ok (.iload 5, 2)) rfl) <|
   ev_a (ok_no) <|
   ev_a (ok_invV X hP hR hd2 hcf (ci := 9) ev_y59 rfl (by decide +kernel : decode cX7_take 61 = .ok (.invokevirtual 39, 3)) ev_w437 ev_w434 ev_w435 ev_w436 ev_w72 ⟨rfl, ev_dn59⟩ (by decide) rfl) <|
   ev_a (ok_no) <|
   ev_a (ok_no) <| ev_a0) <|
  ev_b (
   ev_a (ok_ild X hP (by decide +kernel : decode cX7_take 64 = .ok (.iload 6, 2)) rfl) <|
   ev_a (ok_no) <|
   ev_a (ok_ild_n X hP (by decide +kernel : decode cX7_take 66 = .ok (.iload_n 2, 1)) rfl rfl) <|
   ev_a (ok_invV X hP hR hd2 hcf (ci := 12) ev_y64 rfl (by decide +kernel : decode cX7_take 67 = .ok (.invokevirtual 58, 3)) ev_w676 ev_w673 ev_w675 ev_w21 ev_w74 ⟨rfl, ev_dn64⟩ (by decide) rfl) <|
   ev_a (ok_no) <|
   ev_a (ok_no) <|
   ev_a (ok_inc X hP (by decide +kernel : decode cX7_take 70 = .ok (.iinc 4 1, 3)) (by decide) rfl) <|
   ev_a (ok_no) <|
   ev_a (ok_no) <|
   ev_a (ok_jmp X hP (by decide +kernel : decode cX7_take 73 = .ok (.goto (-70), 3)) (by decide)) <|
   ev_a (ok_no) <|
   ev_a (ok_no) <|
   ev_a (ok_return X hP hQ hfin rfl (by decide +kernel : decode cX7_take 76 = .ok (.return_, 1))) <| ev_a0) <|
  ev_b0
set_option maxRecDepth 100000 in
theorem ev_s72 {l : Launch} {d : Nat} {cf : Nat → List Value → ev_W → Option ev_R} {p : Program} {e : Env} {R : Room} {s : State} {m : MethodId} {args : Array Value} {below : List Frame} {meth : Method} {c : Code} {Q : State → Prop} {D : va_G} {G : Nat → ClassId} {ad : Nat → Nat} {A : Nat → Prop} {z wE nE : Nat} {P : Nat → List Value → List Value → ev_W → Nat → Prop} {α : Type} {r : α} {fin : Option Value → ev_W → Nat → Option α} (X : ev_X cX8_init 1 yX8_init.cls none p s m args meth c D G ad A z) (hP : ev_PP p l e R s m args below meth c Q 1 D G ad A z wE nE P) (hR : wE - z ≤ R.cells ∧ nE ≤ R.slots) (hd2 : d + 1 ≤ R.frames ∧ 64 * (d + 1) ≤ R.locals) (hR1 : 1 ≤ R.frames) (hR2 : 21 ≤ R.locals) (hcf : ev_cf l ev_ys d cf) (hin2 : meth.name = "<init>") {Qc : Array Value → State → Outcome → State → Prop} (hQ : Q = MQ below Qc args s (wE - z) nE A) (hfin : ∀ v w n, fin v w n = some r → w.length = wE ∧ n = nE ∧ ∀ H locs, ev_H D G ad A w H → va_S A s.heap H locs → ∀ t : State, t.heap = H → s.WarmedH t.vm → Qc args s (.returned (v.map (ev_v ad))) t) : ev_all2 (ev_ok P r) 0 (ev_o72 cf fin) :=
  ev_b (
   ev_a (ok_ald_n X hP (by decide +kernel : decode cX8_init 0 = .ok (.aload_n 0, 1)) rfl rfl) <|
   ev_a (ok_obj X hP hR1 hR2 (by decide +kernel : decode cX8_init 1 = .ok (.invokespecial 3, 3)) ev_w203 ev_w115 ev_w116 rfl) <|
   ev_a (ok_no) <|
   ev_a (ok_no) <|
   ev_a (ok_ald_n X hP (by decide +kernel : decode cX8_init 4 = .ok (.aload_n 0, 1)) rfl rfl) <|
   ev_a (ok_psh_iconst X hP (by decide +kernel : decode cX8_init 5 = .ok (.iconst 3, 1)) rfl) <|
   ev_a (ok_newarray X hP hR (by decide +kernel : decode cX8_init 6 = .ok (.newarray .int, 2)) (Or.inl ⟨rfl, rfl, rfl⟩) ev_w136 rfl) <|
   ev_a (ok_no) <|
   ev_a (ok_putF X hP hin2 (ci := 13) (kf := 0) (T := TX8) tyX8 (by decide +kernel : decode cX8_init 8 = .ok (.putfield 9, 3)) rfl ev_in13 tyX8_ok nmX8 (by decide) ev_w204 (Or.inl rfl) rfl rfl rfl rfl) <|
   ev_a (ok_no) <|
   ev_a (ok_no) <|
   ev_a (ok_ald_n X hP (by decide +kernel : decode cX8_init 11 = .ok (.aload_n 0, 1)) rfl rfl) <|
   ev_a (ok_psh_iconst X hP (by decide +kernel : decode cX8_init 12 = .ok (.iconst 3, 1)) rfl) <|
   ev_a (ok_newarray X hP hR (by decide +kernel : decode cX8_init 13 = .ok (.newarray .int, 2)) (Or.inl ⟨rfl, rfl, rfl⟩) ev_w136 rfl) <|
   ev_a (ok_no) <|
   ev_a (ok_putF X hP hin2 (ci := 13) (kf := 1) (T := TX8) tyX8 (by decide +kernel : decode cX8_init 15 = .ok (.putfield 15, 3)) rfl ev_in13 tyX8_ok nmX8 (by decide) ev_w206 (Or.inl rfl) rfl rfl rfl rfl) <| ev_a0) <|
  ev_b (
   ev_a (ok_no) <|
   ev_a (ok_no) <|
   ev_a (ok_ald_n X hP (by decide +kernel : decode cX8_init 18 = .ok (.aload_n 0, 1)) rfl rfl) <|
   ev_a (ok_psh_iconst X hP (by decide +kernel : decode cX8_init 19 = .ok (.iconst 3, 1)) rfl) <|
   ev_a (ok_newarray X hP hR (by decide +kernel : decode cX8_init 20 = .ok (.newarray .int, 2)) (Or.inl ⟨rfl, rfl, rfl⟩) ev_w136 rfl) <|
   ev_a (ok_no) <|
   ev_a (ok_putF X hP hin2 (ci := 13) (kf := 2) (T := TX8) tyX8 (by decide +kernel : decode cX8_init 22 = .ok (.putfield 18, 3)) rfl ev_in13 tyX8_ok nmX8 (by decide) ev_w208 (Or.inl rfl) rfl rfl rfl rfl) <|
   ev_a (ok_no) <|
   ev_a (ok_no) <|
   ev_a (ok_return X hP hQ hfin rfl (by decide +kernel : decode cX8_init 25 = .ok (.return_, 1))) <| ev_a0) <|
  ev_b0
set_option maxRecDepth 100000 in
theorem ev_s73 {l : Launch} {d : Nat} {cf : Nat → List Value → ev_W → Option ev_R} {p : Program} {e : Env} {R : Room} {s : State} {m : MethodId} {args : Array Value} {below : List Frame} {meth : Method} {c : Code} {Q : State → Prop} {D : va_G} {G : Nat → ClassId} {ad : Nat → Nat} {A : Nat → Prop} {z wE nE : Nat} {P : Nat → List Value → List Value → ev_W → Nat → Prop} {α : Type} {r : α} {fin : Option Value → ev_W → Nat → Option α} (X : ev_X cX9_brokenHeads 4 yX9_brokenHeads.cls (some FieldType.int) p s m args meth c D G ad A z) (hP : ev_PP p l e R s m args below meth c Q 4 D G ad A z wE nE P) (hR : wE - z ≤ R.cells ∧ nE ≤ R.slots) (hd2 : d + 1 ≤ R.frames ∧ 64 * (d + 1) ≤ R.locals) (hR1 : 1 ≤ R.frames) (hR2 : 21 ≤ R.locals) (hcf : ev_cf l ev_ys d cf) {Qc : Array Value → State → Outcome → State → Prop} (hQ : Q = MQ below Qc args s (wE - z) nE A) (hfin : ∀ v w n, fin v w n = some r → w.length = wE ∧ n = nE ∧ ∀ H locs, ev_H D G ad A w H → va_S A s.heap H locs → ∀ t : State, t.heap = H → s.WarmedH t.vm → Qc args s (.returned (v.map (ev_v ad))) t) : ev_all2 (ev_ok P r) 0 (ev_o73 cf fin) :=
  ev_b (
   ev_a (ok_psh_iconst X hP (by decide +kernel : decode cX9_brokenHeads 0 = .ok (.iconst 0, 1)) rfl) <|
   ev_a (ok_ist_n X hP (by decide +kernel : decode cX9_brokenHeads 1 = .ok (.istore_n 2, 1)) rfl (by decide) rfl) <|
   ev_a (ok_psh_iconst X hP (by decide +kernel : decode cX9_brokenHeads 2 = .ok (.iconst 0, 1)) rfl) <|
   ev_a (ok_ist_n X hP (by decide +kernel : decode cX9_brokenHeads 3 = .ok (.istore_n 3, 1)) rfl (by decide) rfl) <|
   ev_a (ok_ild_n X hP (by decide +kernel : decode cX9_brokenHeads 4 = .ok (.iload_n 3, 1)) rfl rfl) <|
   ev_a (ok_psh_bipush X hP (by decide +kernel : decode cX9_brokenHeads 5 = .ok (.bipush 6, 2)) rfl) <|
   ev_a (ok_no) <|
   ev_a (ok_icmp_ge X hP (by decide +kernel : decode cX9_brokenHeads 7 = .ok (.if_icmp .ge 21, 3)) (by decide) rfl) <|
   ev_a (ok_no) <|
   ev_a (ok_no) <|
   ev_a (ok_ald_n X hP (by decide +kernel : decode cX9_brokenHeads 10 = .ok (.aload_n 0, 1)) rfl rfl) <|
   ev_a (ok_ild_n X hP (by decide +kernel : decode cX9_brokenHeads 11 = .ok (.iload_n 3, 1)) rfl rfl) <|
   ev_a (ok_ald_n X hP (by decide +kernel : decode cX9_brokenHeads 12 = .ok (.aload_n 1, 1)) rfl rfl) <|
   ev_a (ok_invV X hP hR hd2 hcf (ci := 14) ev_y76 rfl (by decide +kernel : decode cX9_brokenHeads 13 = .ok (.invokevirtual 49, 3)) ev_w691 ev_w688 ev_w690 ev_w23 ev_w75 ⟨rfl, ev_dn76⟩ (by decide) rfl) <|
   ev_a (ok_no) <|
   ev_a (ok_no) <| ev_a0) <|
  ev_b (
   ev_a (ok_if_eq X hP (by decide +kernel : decode cX9_brokenHeads 16 = .ok (.ifCond .eq 6, 3)) (by decide) rfl) <|
   ev_a (ok_no) <|
   ev_a (ok_no) <|
   ev_a (ok_inc X hP (by decide +kernel : decode cX9_brokenHeads 19 = .ok (.iinc 2 1, 3)) (by decide) rfl) <|
   ev_a (ok_no) <|
   ev_a (ok_no) <|
   ev_a (ok_inc X hP (by decide +kernel : decode cX9_brokenHeads 22 = .ok (.iinc 3 1, 3)) (by decide) rfl) <|
   ev_a (ok_no) <|
   ev_a (ok_no) <|
   ev_a (ok_jmp X hP (by decide +kernel : decode cX9_brokenHeads 25 = .ok (.goto (-21), 3)) (by decide)) <|
   ev_a (ok_no) <|
   ev_a (ok_no) <|
   ev_a (ok_ild_n X hP (by decide +kernel : decode cX9_brokenHeads 28 = .ok (.iload_n 2, 1)) rfl rfl) <|
   ev_a (ok_ireturn X hP hQ hfin rfl (by decide +kernel : decode cX9_brokenHeads 29 = .ok (.ireturn, 1))) <| ev_a0) <|
  ev_b0
set_option maxRecDepth 100000 in
theorem ev_s74 {l : Launch} {d : Nat} {cf : Nat → List Value → ev_W → Option ev_R} {p : Program} {e : Env} {R : Room} {s : State} {m : MethodId} {args : Array Value} {below : List Frame} {meth : Method} {c : Code} {Q : State → Prop} {D : va_G} {G : Nat → ClassId} {ad : Nat → Nat} {A : Nat → Prop} {z wE nE : Nat} {P : Nat → List Value → List Value → ev_W → Nat → Prop} {α : Type} {r : α} {fin : Option Value → ev_W → Nat → Option α} (X : ev_X cX9_gather 6 yX9_gather.cls none p s m args meth c D G ad A z) (hP : ev_PP p l e R s m args below meth c Q 6 D G ad A z wE nE P) (hR : wE - z ≤ R.cells ∧ nE ≤ R.slots) (hd2 : d + 1 ≤ R.frames ∧ 64 * (d + 1) ≤ R.locals) (hR1 : 1 ≤ R.frames) (hR2 : 21 ≤ R.locals) (hcf : ev_cf l ev_ys d cf) {Qc : Array Value → State → Outcome → State → Prop} (hQ : Q = MQ below Qc args s (wE - z) nE A) (hfin : ∀ v w n, fin v w n = some r → w.length = wE ∧ n = nE ∧ ∀ H locs, ev_H D G ad A w H → va_S A s.heap H locs → ∀ t : State, t.heap = H → s.WarmedH t.vm → Qc args s (.returned (v.map (ev_v ad))) t) : ev_all2 (ev_ok P r) 0 (ev_o74 cf fin) :=
  ev_b (
   ev_a (ok_ald_n X hP (by decide +kernel : decode cX9_gather 0 = .ok (.aload_n 0, 1)) rfl rfl) <|
   ev_a (ok_get X hP (ci := 14) (kf := 0) (T := TX9) (by decide +kernel : decode cX9_gather 1 = .ok (.getfield 9, 3)) rfl ev_in14 (by decide) ev_w194 (Or.inl rfl) rfl) <|
   ev_a (ok_no) <|
   ev_a (ok_no) <|
   ev_a (ok_psh_iconst X hP (by decide +kernel : decode cX9_gather 4 = .ok (.iconst 0, 1)) rfl) <|
   ev_a (ok_invSN X hP hR hd2 hcf ev_y28 (by decide +kernel : decode cX9_gather 5 = .ok (.invokestatic 15, 3)) ev_w455 ev_w453 ev_w454 ev_w71 ev_dn28 (by decide) rfl) <|
   ev_a (ok_no) <|
   ev_a (ok_no) <|
   ev_a (ok_psh_iconst X hP (by decide +kernel : decode cX9_gather 8 = .ok (.iconst 0, 1)) rfl) <|
   ev_a (ok_ist_n X hP (by decide +kernel : decode cX9_gather 9 = .ok (.istore_n 3, 1)) rfl (by decide) rfl) <|
   ev_a (ok_ild_n X hP (by decide +kernel : decode cX9_gather 10 = .ok (.iload_n 3, 1)) rfl rfl) <|
   ev_a (ok_ald_n X hP (by decide +kernel : decode cX9_gather 11 = .ok (.aload_n 1, 1)) rfl rfl) <|
   ev_a (ok_getN X hP (ci := 12) (kf := 5) (T := TX7) (by decide +kernel : decode cX9_gather 12 = .ok (.getfield 19, 3)) rfl ev_in12 (by decide) ev_w172 (Or.inl rfl) rfl) <|
   ev_a (ok_no) <|
   ev_a (ok_no) <|
   ev_a (ok_icmp_ge X hP (by decide +kernel : decode cX9_gather 15 = .ok (.if_icmp .ge 63, 3)) (by decide) rfl) <| ev_a0) <|
  ev_b (
   ev_a (ok_no) <|
   ev_a (ok_no) <|
   ev_a (ok_ald_n X hP (by decide +kernel : decode cX9_gather 18 = .ok (.aload_n 1, 1)) rfl rfl) <|
   ev_a (ok_ild_n X hP (by decide +kernel : decode cX9_gather 19 = .ok (.iload_n 3, 1)) rfl rfl) <|
   ev_a (ok_ild_n X hP (by decide +kernel : decode cX9_gather 20 = .ok (.iload_n 2, 1)) rfl rfl) <|
   ev_a (ok_invV X hP hR hd2 hcf (ci := 12) ev_y67 rfl (by decide +kernel : decode cX9_gather 21 = .ok (.invokevirtual 25, 3)) ev_w459 ev_w456 ev_w457 ev_w458 ev_w74 ⟨rfl, ev_dn67⟩ (by decide) rfl) <|
   ev_a (ok_no) <|
   ev_a (ok_no) <|
   ev_a (ok_if_eq X hP (by decide +kernel : decode cX9_gather 24 = .ok (.ifCond .eq 48, 3)) (by decide) rfl) <|
   ev_a (ok_no) <|
   ev_a (ok_no) <|
   ev_a (ok_ald_n X hP (by decide +kernel : decode cX9_gather 27 = .ok (.aload_n 1, 1)) rfl rfl) <|
   ev_a (ok_getN X hP (ci := 12) (kf := 1) (T := TX7) (by decide +kernel : decode cX9_gather 28 = .ok (.getfield 29, 3)) rfl ev_in12 (by decide) ev_w165 (Or.inl rfl) rfl) <|
   ev_a (ok_no) <|
   ev_a (ok_no) <|
   ev_a (ok_ild_n X hP (by decide +kernel : decode cX9_gather 31 = .ok (.iload_n 3, 1)) rfl rfl) <| ev_a0) <|
  ev_b (
   ev_a (ok_psh_iconst X hP (by decide +kernel : decode cX9_gather 32 = .ok (.iconst 0, 1)) rfl) <|
   ev_a (ok_invSN X hP hR hd2 hcf ev_y22 (by decide +kernel : decode cX9_gather 33 = .ok (.invokestatic 32, 3)) ev_w423 ev_w464 ev_w422 ev_w71 ev_dn22 (by decide) rfl) <|
   ev_a (ok_no) <|
   ev_a (ok_no) <|
   ev_a (ok_ist X hP (by decide +kernel : decode cX9_gather 36 = .ok (.istore 4, 2)) (by decide) rfl) <|
   ev_a (ok_no) <|
   ev_a (ok_ild X hP (by decide +kernel : decode cX9_gather 38 = .ok (.iload 4, 2)) rfl) <|
   ev_a (ok_no) <|
   ev_a (ok_psh_bipush X hP (by decide +kernel : decode cX9_gather 40 = .ok (.bipush 10, 2)) rfl) <|
   ev_a (ok_no) <|
   ev_a (ok_idiv X hP (by decide +kernel : decode cX9_gather 42 = .ok (.idiv, 1)) rfl) <|
   ev_a (ok_ist X hP (by decide +kernel : decode cX9_gather 43 = .ok (.istore 5, 2)) (by decide) rfl) <|
   ev_a (ok_no) <|
   ev_a (ok_ald_n X hP (by decide +kernel : decode cX9_gather 45 = .ok (.aload_n 0, 1)) rfl rfl) <|
   ev_a (ok_get X hP (ci := 14) (kf := 0) (T := TX9) (by decide +kernel : decode cX9_gather 46 = .ok (.getfield 9, 3)) rfl ev_in14 (by decide) ev_w194 (Or.inl rfl) rfl) <|
   ev_a (ok_no) <| ev_a0) <|
  ev_b (
   ev_a (ok_no) <|
   ev_a (ok_ild X hP (by decide +kernel : decode cX9_gather 49 = .ok (.iload 5, 2)) rfl) <|
   ev_a (ok_no) <|
   ev_a (ok_ald_n X hP (by decide +kernel : decode cX9_gather 51 = .ok (.aload_n 0, 1)) rfl rfl) <|
   ev_a (ok_get X hP (ci := 14) (kf := 0) (T := TX9) (by decide +kernel : decode cX9_gather 52 = .ok (.getfield 9, 3)) rfl ev_in14 (by decide) ev_w194 (Or.inl rfl) rfl) <|
   ev_a (ok_no) <|
   ev_a (ok_no) <|
   ev_a (ok_ild X hP (by decide +kernel : decode cX9_gather 55 = .ok (.iload 5, 2)) rfl) <|
   ev_a (ok_no) <|
   ev_a (ok_psh_iconst X hP (by decide +kernel : decode cX9_gather 57 = .ok (.iconst 0, 1)) rfl) <|
   ev_a (ok_invSN X hP hR hd2 hcf ev_y22 (by decide +kernel : decode cX9_gather 58 = .ok (.invokestatic 32, 3)) ev_w423 ev_w464 ev_w422 ev_w71 ev_dn22 (by decide) rfl) <|
   ev_a (ok_no) <|
   ev_a (ok_no) <|
   ev_a (ok_psh_iconst X hP (by decide +kernel : decode cX9_gather 61 = .ok (.iconst 1, 1)) rfl) <|
   ev_a (ok_ild X hP (by decide +kernel : decode cX9_gather 62 = .ok (.iload 4, 2)) rfl) <|
   ev_a (ok_no) <| ev_a0) <|
  ev_b (
   ev_a (ok_psh_bipush X hP (by decide +kernel : decode cX9_gather 64 = .ok (.bipush 10, 2)) rfl) <|
   ev_a (ok_no) <|
   ev_a (ok_irem X hP (by decide +kernel : decode cX9_gather 66 = .ok (.irem, 1)) rfl) <|
   ev_a (ok_ishl X hP (by decide +kernel : decode cX9_gather 67 = .ok (.ishl, 1)) rfl) <|
   ev_a (ok_ior X hP (by decide +kernel : decode cX9_gather 68 = .ok (.ior, 1)) rfl) <|
   ev_a (ok_invSN X hP hR hd2 hcf ev_y31 (by decide +kernel : decode cX9_gather 69 = .ok (.invokestatic 36, 3)) ev_w440 ev_w465 ev_w439 ev_w71 ev_dn31 (by decide) rfl) <|
   ev_a (ok_no) <|
   ev_a (ok_no) <|
   ev_a (ok_inc X hP (by decide +kernel : decode cX9_gather 72 = .ok (.iinc 3 1, 3)) (by decide) rfl) <|
   ev_a (ok_no) <|
   ev_a (ok_no) <|
   ev_a (ok_jmp X hP (by decide +kernel : decode cX9_gather 75 = .ok (.goto (-65), 3)) (by decide)) <|
   ev_a (ok_no) <|
   ev_a (ok_no) <|
   ev_a (ok_return X hP hQ hfin rfl (by decide +kernel : decode cX9_gather 78 = .ok (.return_, 1))) <| ev_a0) <|
  ev_b0
set_option maxRecDepth 100000 in
theorem ev_s75 {l : Launch} {d : Nat} {cf : Nat → List Value → ev_W → Option ev_R} {p : Program} {e : Env} {R : Room} {s : State} {m : MethodId} {args : Array Value} {below : List Frame} {meth : Method} {c : Code} {Q : State → Prop} {D : va_G} {G : Nat → ClassId} {ad : Nat → Nat} {A : Nat → Prop} {z wE nE : Nat} {P : Nat → List Value → List Value → ev_W → Nat → Prop} {α : Type} {r : α} {fin : Option Value → ev_W → Nat → Option α} (X : ev_X cX9_init 1 yX9_init.cls none p s m args meth c D G ad A z) (hP : ev_PP p l e R s m args below meth c Q 1 D G ad A z wE nE P) (hR : wE - z ≤ R.cells ∧ nE ≤ R.slots) (hd2 : d + 1 ≤ R.frames ∧ 64 * (d + 1) ≤ R.locals) (hR1 : 1 ≤ R.frames) (hR2 : 21 ≤ R.locals) (hcf : ev_cf l ev_ys d cf) (hin2 : meth.name = "<init>") {Qc : Array Value → State → Outcome → State → Prop} (hQ : Q = MQ below Qc args s (wE - z) nE A) (hfin : ∀ v w n, fin v w n = some r → w.length = wE ∧ n = nE ∧ ∀ H locs, ev_H D G ad A w H → va_S A s.heap H locs → ∀ t : State, t.heap = H → s.WarmedH t.vm → Qc args s (.returned (v.map (ev_v ad))) t) : ev_all2 (ev_ok P r) 0 (ev_o75 cf fin) :=
  ev_b (
   ev_a (ok_ald_n X hP (by decide +kernel : decode cX9_init 0 = .ok (.aload_n 0, 1)) rfl rfl) <|
   ev_a (ok_obj X hP hR1 hR2 (by decide +kernel : decode cX9_init 1 = .ok (.invokespecial 3, 3)) ev_w193 ev_w115 ev_w116 rfl) <|
   ev_a (ok_no) <|
   ev_a (ok_no) <|
   ev_a (ok_ald_n X hP (by decide +kernel : decode cX9_init 4 = .ok (.aload_n 0, 1)) rfl rfl) <|
   ev_a (ok_psh_bipush X hP (by decide +kernel : decode cX9_init 5 = .ok (.bipush 56, 2)) rfl) <|
   ev_a (ok_no) <|
   ev_a (ok_newarray X hP hR (by decide +kernel : decode cX9_init 7 = .ok (.newarray .int, 2)) (Or.inl ⟨rfl, rfl, rfl⟩) ev_w136 rfl) <|
   ev_a (ok_no) <|
   ev_a (ok_putF X hP hin2 (ci := 14) (kf := 0) (T := TX9) tyX9 (by decide +kernel : decode cX9_init 9 = .ok (.putfield 9, 3)) rfl ev_in14 tyX9_ok nmX9 (by decide) ev_w194 (Or.inl rfl) rfl rfl rfl rfl) <|
   ev_a (ok_no) <|
   ev_a (ok_no) <|
   ev_a (ok_return X hP hQ hfin rfl (by decide +kernel : decode cX9_init 12 = .ok (.return_, 1))) <| ev_a0) <|
  ev_b0
set_option maxRecDepth 100000 in
theorem ev_s76 {l : Launch} {d : Nat} {cf : Nat → List Value → ev_W → Option ev_R} {p : Program} {e : Env} {R : Room} {s : State} {m : MethodId} {args : Array Value} {below : List Frame} {meth : Method} {c : Code} {Q : State → Prop} {D : va_G} {G : Nat → ClassId} {ad : Nat → Nat} {A : Nat → Prop} {z wE nE : Nat} {P : Nat → List Value → List Value → ev_W → Nat → Prop} {α : Type} {r : α} {fin : Option Value → ev_W → Nat → Option α} (X : ev_X cX9_isBrokenFor 5 yX9_isBrokenFor.cls (some FieldType.boolean) p s m args meth c D G ad A z) (hP : ev_PP p l e R s m args below meth c Q 5 D G ad A z wE nE P) (hR : wE - z ≤ R.cells ∧ nE ≤ R.slots) (hd2 : d + 1 ≤ R.frames ∧ 64 * (d + 1) ≤ R.locals) (hR1 : 1 ≤ R.frames) (hR2 : 21 ≤ R.locals) (hcf : ev_cf l ev_ys d cf) {Qc : Array Value → State → Outcome → State → Prop} (hQ : Q = MQ below Qc args s (wE - z) nE A) (hfin : ∀ v w n, fin v w n = some r → w.length = wE ∧ n = nE ∧ ∀ H locs, ev_H D G ad A w H → va_S A s.heap H locs → ∀ t : State, t.heap = H → s.WarmedH t.vm → Qc args s (.returned (v.map (ev_v ad))) t) : ev_all2 (ev_ok P r) 0 (ev_o76 cf fin) :=
  ev_b (
   ev_a (ok_psh_iconst X hP (by decide +kernel : decode cX9_isBrokenFor 0 = .ok (.iconst 0, 1)) rfl) <|
   ev_a (ok_ist_n X hP (by decide +kernel : decode cX9_isBrokenFor 1 = .ok (.istore_n 3, 1)) rfl (by decide) rfl) <|
   ev_a (ok_ild_n X hP (by decide +kernel : decode cX9_isBrokenFor 2 = .ok (.iload_n 3, 1)) rfl rfl) <|
   ev_a (ok_psh_bipush X hP (by decide +kernel : decode cX9_isBrokenFor 3 = .ok (.bipush 6, 2)) rfl) <|
   ev_a (ok_no) <|
   ev_a (ok_icmp_ge X hP (by decide +kernel : decode cX9_isBrokenFor 5 = .ok (.if_icmp .ge 51, 3)) (by decide) rfl) <|
   ev_a (ok_no) <|
   ev_a (ok_no) <|
   ev_a (ok_ild_n X hP (by decide +kernel : decode cX9_isBrokenFor 8 = .ok (.iload_n 1, 1)) rfl rfl) <|
   ev_a (ok_psh_bipush X hP (by decide +kernel : decode cX9_isBrokenFor 9 = .ok (.bipush 10, 2)) rfl) <|
   ev_a (ok_no) <|
   ev_a (ok_imul X hP (by decide +kernel : decode cX9_isBrokenFor 11 = .ok (.imul, 1)) rfl) <|
   ev_a (ok_ald_n X hP (by decide +kernel : decode cX9_isBrokenFor 12 = .ok (.aload_n 2, 1)) rfl rfl) <|
   ev_a (ok_ild_n X hP (by decide +kernel : decode cX9_isBrokenFor 13 = .ok (.iload_n 3, 1)) rfl rfl) <|
   ev_a (ok_invV X hP hR hd2 hcf (ci := 9) ev_y58 rfl (by decide +kernel : decode cX9_isBrokenFor 14 = .ok (.invokevirtual 53, 3)) ev_w420 ev_w692 ev_w418 ev_w419 ev_w72 ⟨rfl, ev_dn58⟩ (by decide) rfl) <|
   ev_a (ok_no) <| ev_a0) <|
  ev_b (
   ev_a (ok_no) <|
   ev_a (ok_iadd X hP (by decide +kernel : decode cX9_isBrokenFor 17 = .ok (.iadd, 1)) rfl) <|
   ev_a (ok_ist X hP (by decide +kernel : decode cX9_isBrokenFor 18 = .ok (.istore 4, 2)) (by decide) rfl) <|
   ev_a (ok_no) <|
   ev_a (ok_ald_n X hP (by decide +kernel : decode cX9_isBrokenFor 20 = .ok (.aload_n 2, 1)) rfl rfl) <|
   ev_a (ok_getN X hP (ci := 9) (kf := 1) (T := TX4) (by decide +kernel : decode cX9_isBrokenFor 21 = .ok (.getfield 58, 3)) rfl ev_in9 (by decide) ev_w129 (Or.inl rfl) rfl) <|
   ev_a (ok_no) <|
   ev_a (ok_no) <|
   ev_a (ok_ild_n X hP (by decide +kernel : decode cX9_isBrokenFor 24 = .ok (.iload_n 3, 1)) rfl rfl) <|
   ev_a (ok_invSN X hP hR hd2 hcf ev_y30 (by decide +kernel : decode cX9_isBrokenFor 25 = .ok (.invokestatic 40, 3)) ev_w510 ev_w537 ev_w509 ev_w71 ev_dn30 (by decide) rfl) <|
   ev_a (ok_no) <|
   ev_a (ok_no) <|
   ev_a (ok_if_eq X hP (by decide +kernel : decode cX9_isBrokenFor 28 = .ok (.ifCond .eq 22, 3)) (by decide) rfl) <|
   ev_a (ok_no) <|
   ev_a (ok_no) <|
   ev_a (ok_ald_n X hP (by decide +kernel : decode cX9_isBrokenFor 31 = .ok (.aload_n 0, 1)) rfl rfl) <| ev_a0) <|
  ev_b (
   ev_a (ok_get X hP (ci := 14) (kf := 0) (T := TX9) (by decide +kernel : decode cX9_isBrokenFor 32 = .ok (.getfield 9, 3)) rfl ev_in14 (by decide) ev_w194 (Or.inl rfl) rfl) <|
   ev_a (ok_no) <|
   ev_a (ok_no) <|
   ev_a (ok_ild X hP (by decide +kernel : decode cX9_isBrokenFor 35 = .ok (.iload 4, 2)) rfl) <|
   ev_a (ok_no) <|
   ev_a (ok_psh_iconst X hP (by decide +kernel : decode cX9_isBrokenFor 37 = .ok (.iconst 0, 1)) rfl) <|
   ev_a (ok_invSN X hP hR hd2 hcf ev_y22 (by decide +kernel : decode cX9_isBrokenFor 38 = .ok (.invokestatic 32, 3)) ev_w423 ev_w464 ev_w422 ev_w71 ev_dn22 (by decide) rfl) <|
   ev_a (ok_no) <|
   ev_a (ok_no) <|
   ev_a (ok_no) <|
   ev_a (ok_no) <|
   ev_a (ok_no) <|
   ev_a (ok_psh_iconst X hP (by decide +kernel : decode cX9_isBrokenFor 44 = .ok (.iconst 1, 1)) rfl) <|
   ev_a (ok_icmp_le X hP (by decide +kernel : decode cX9_isBrokenFor 45 = .ok (.if_icmp .le 5, 3)) (by decide) rfl) <|
   ev_a (ok_no) <|
   ev_a (ok_no) <| ev_a0) <|
  ev_b (
   ev_a (ok_psh_iconst X hP (by decide +kernel : decode cX9_isBrokenFor 48 = .ok (.iconst 1, 1)) rfl) <|
   ev_a (ok_zreturn X hP hQ hfin rfl (by decide +kernel : decode cX9_isBrokenFor 49 = .ok (.ireturn, 1))) <|
   ev_a (ok_inc X hP (by decide +kernel : decode cX9_isBrokenFor 50 = .ok (.iinc 3 1, 3)) (by decide) rfl) <|
   ev_a (ok_no) <|
   ev_a (ok_no) <|
   ev_a (ok_jmp X hP (by decide +kernel : decode cX9_isBrokenFor 53 = .ok (.goto (-51), 3)) (by decide)) <|
   ev_a (ok_no) <|
   ev_a (ok_no) <|
   ev_a (ok_psh_iconst X hP (by decide +kernel : decode cX9_isBrokenFor 56 = .ok (.iconst 0, 1)) rfl) <|
   ev_a (ok_zreturn X hP hQ hfin rfl (by decide +kernel : decode cX9_isBrokenFor 57 = .ok (.ireturn, 1))) <| ev_a0) <|
  ev_b0
end
section
theorem ev_mo1 {cf : Nat → List Value → ev_W → Option ev_R} {α : Type} {r : α} {fin : Option Value → ev_W → Nat → Option α} {wE nE : Nat} (hcm : ev_cm cf) (hfm : ∀ v w n, fin v w n = some r → w.length = wE ∧ n = nE) : ev_all2 (ev_ok (ev_Pm wE nE) r) 0 (ev_o1 cf fin) :=
  ev_b (
   ev_a (mo_ald) <|
   ev_a (mo_get) <|
   ev_a (mo_no) <|
   ev_a (mo_no) <|
   ev_a (mo_get) <|
   ev_a (mo_no) <|
   ev_a (mo_no) <|
   ev_a (mo_ald) <|
   ev_a (mo_get) <|
   ev_a (mo_no) <|
   ev_a (mo_no) <|
   ev_a (mo_cmp) <|
   ev_a (mo_no) <|
   ev_a (mo_no) <|
   ev_a (mo_no) <|
   ev_a (mo_no) <| ev_a0) <|
  ev_b (
   ev_a (mo_no) <|
   ev_a (mo_dup) <|
   ev_a (mo_no) <|
   ev_a (mo_no) <|
   ev_a (mo_no) <|
   ev_a (mo_no) <|
   ev_a (mo_rtv hfm) <| ev_a0) <|
  ev_b0
theorem ev_mo2 {cf : Nat → List Value → ev_W → Option ev_R} {α : Type} {r : α} {fin : Option Value → ev_W → Nat → Option α} {wE nE : Nat} (hcm : ev_cm cf) (hfm : ∀ v w n, fin v w n = some r → w.length = wE ∧ n = nE) : ev_all2 (ev_ok (ev_Pm wE nE) r) 0 (ev_o2 cf fin) :=
  ev_b (
   ev_a (mo_ald) <|
   ev_a (mo_get) <|
   ev_a (mo_no) <|
   ev_a (mo_no) <|
   ev_a (mo_ald) <|
   ev_a (mo_get) <|
   ev_a (mo_no) <|
   ev_a (mo_no) <|
   ev_a (mo_get) <|
   ev_a (mo_no) <|
   ev_a (mo_no) <|
   ev_a (mo_cmp) <|
   ev_a (mo_no) <|
   ev_a (mo_no) <|
   ev_a (mo_psh) <|
   ev_a (mo_jmp) <| ev_a0) <|
  ev_b (
   ev_a (mo_no) <|
   ev_a (mo_no) <|
   ev_a (mo_psh) <|
   ev_a (mo_rtz hfm) <| ev_a0) <|
  ev_b0
theorem ev_mo3 {cf : Nat → List Value → ev_W → Option ev_R} {α : Type} {r : α} {fin : Option Value → ev_W → Nat → Option α} {wE nE : Nat} (hcm : ev_cm cf) (hfm : ∀ v w n, fin v w n = some r → w.length = wE ∧ n = nE) : ev_all2 (ev_ok (ev_Pm wE nE) r) 0 (ev_o3 cf fin) :=
  ev_b (
   ev_a (mo_ald) <|
   ev_a (mo_ald) <|
   ev_a (mo_ptf) <|
   ev_a (mo_no) <|
   ev_a (mo_no) <|
   ev_a (mo_ald) <|
   ev_a (mo_obj) <|
   ev_a (mo_no) <|
   ev_a (mo_no) <|
   ev_a (mo_ald) <|
   ev_a (mo_psh) <|
   ev_a (mo_ptf) <|
   ev_a (mo_no) <|
   ev_a (mo_no) <|
   ev_a (mo_ald) <|
   ev_a (mo_ald) <| ev_a0) <|
  ev_b (
   ev_a (mo_get) <|
   ev_a (mo_no) <|
   ev_a (mo_no) <|
   ev_a (mo_get) <|
   ev_a (mo_no) <|
   ev_a (mo_no) <|
   ev_a (mo_ptf) <|
   ev_a (mo_no) <|
   ev_a (mo_no) <|
   ev_a (mo_rtv hfm) <| ev_a0) <|
  ev_b0
theorem ev_mo4 {cf : Nat → List Value → ev_W → Option ev_R} {α : Type} {r : α} {fin : Option Value → ev_W → Nat → Option α} {wE nE : Nat} (hcm : ev_cm cf) (hfm : ∀ v w n, fin v w n = some r → w.length = wE ∧ n = nE) : ev_all2 (ev_ok (ev_Pm wE nE) r) 0 (ev_o4 cf fin) :=
  ev_b (
   ev_a (mo_ald) <|
   ev_a (mo_inr hcm) <|
   ev_a (mo_no) <|
   ev_a (mo_no) <|
   ev_a (mo_ald) <|
   ev_a (mo_get) <|
   ev_a (mo_no) <|
   ev_a (mo_no) <|
   ev_a (mo_ist) <|
   ev_a (mo_ild) <|
   ev_a (mo_ald) <|
   ev_a (mo_get) <|
   ev_a (mo_no) <|
   ev_a (mo_no) <|
   ev_a (mo_get) <|
   ev_a (mo_no) <| ev_a0) <|
  ev_b (
   ev_a (mo_no) <|
   ev_a (mo_cmp) <|
   ev_a (mo_no) <|
   ev_a (mo_no) <|
   ev_a (mo_no) <|
   ev_a (mo_no) <|
   ev_a (mo_no) <|
   ev_a (mo_dup) <|
   ev_a (mo_no) <|
   ev_a (mo_no) <|
   ev_a (mo_no) <|
   ev_a (mo_no) <|
   ev_a (mo_ald) <|
   ev_a (mo_get) <|
   ev_a (mo_no) <|
   ev_a (mo_no) <| ev_a0) <|
  ev_b (
   ev_a (mo_get) <|
   ev_a (mo_no) <|
   ev_a (mo_no) <|
   ev_a (mo_ast) <|
   ev_a (mo_ild) <|
   ev_a (mo_ald) <|
   ev_a (mo_aln) <|
   ev_a (mo_cmp) <|
   ev_a (mo_no) <|
   ev_a (mo_no) <|
   ev_a (mo_no) <|
   ev_a (mo_no) <|
   ev_a (mo_no) <|
   ev_a (mo_dup) <|
   ev_a (mo_no) <|
   ev_a (mo_no) <| ev_a0) <|
  ev_b (
   ev_a (mo_no) <|
   ev_a (mo_no) <|
   ev_a (mo_ald) <|
   ev_a (mo_ild) <|
   ev_a (mo_psh) <|
   ev_a (mo_bin) <|
   ev_a (mo_ptf) <|
   ev_a (mo_no) <|
   ev_a (mo_no) <|
   ev_a (mo_ald) <|
   ev_a (mo_ald) <|
   ev_a (mo_ild) <|
   ev_a (mo_dx1) <|
   ev_a (mo_ptf) <|
   ev_a (mo_no) <|
   ev_a (mo_no) <| ev_a0) <|
  ev_b (
   ev_a (mo_ldq) <|
   ev_a (mo_rta hfm) <| ev_a0) <|
  ev_b0
theorem ev_mo5 {cf : Nat → List Value → ev_W → Option ev_R} {α : Type} {r : α} {fin : Option Value → ev_W → Nat → Option α} {wE nE : Nat} (hcm : ev_cm cf) (hfm : ∀ v w n, fin v w n = some r → w.length = wE ∧ n = nE) : ev_all2 (ev_ok (ev_Pm wE nE) r) 0 (ev_o5 cf fin) :=
  ev_b (
   ev_a (mo_ild) <|
   ev_a (mo_ald) <|
   ev_a (mo_aln) <|
   ev_a (mo_cmp) <|
   ev_a (mo_no) <|
   ev_a (mo_no) <|
   ev_a (mo_ald) <|
   ev_a (mo_inr hcm) <|
   ev_a (mo_no) <|
   ev_a (mo_no) <|
   ev_a (mo_ast) <|
   ev_a (mo_ald) <|
   ev_a (mo_ild) <|
   ev_a (mo_ald) <|
   ev_a (mo_stq) <|
   ev_a (mo_ald) <| ev_a0) <|
  ev_b (
   ev_a (mo_ild) <|
   ev_a (mo_psh) <|
   ev_a (mo_bin) <|
   ev_a (mo_ptf) <|
   ev_a (mo_no) <|
   ev_a (mo_no) <|
   ev_a (mo_rtv hfm) <| ev_a0) <|
  ev_b0
theorem ev_mo6 {cf : Nat → List Value → ev_W → Option ev_R} {α : Type} {r : α} {fin : Option Value → ev_W → Nat → Option α} {wE nE : Nat} (hcm : ev_cm cf) (hfm : ∀ v w n, fin v w n = some r → w.length = wE ∧ n = nE) : ev_all2 (ev_ok (ev_Pm wE nE) r) 0 (ev_o6 cf fin) :=
  ev_b (
   ev_a (mo_ald) <|
   ev_a (mo_dup) <|
   ev_a (mo_get) <|
   ev_a (mo_no) <|
   ev_a (mo_no) <|
   ev_a (mo_psh) <|
   ev_a (mo_bin) <|
   ev_a (mo_ptf) <|
   ev_a (mo_no) <|
   ev_a (mo_no) <|
   ev_a (mo_ald) <|
   ev_a (mo_ald) <|
   ev_a (mo_ald) <|
   ev_a (mo_get) <|
   ev_a (mo_no) <|
   ev_a (mo_no) <| ev_a0) <|
  ev_b (
   ev_a (mo_ald) <|
   ev_a (mo_get) <|
   ev_a (mo_no) <|
   ev_a (mo_no) <|
   ev_a (mo_inr hcm) <|
   ev_a (mo_no) <|
   ev_a (mo_no) <|
   ev_a (mo_psh) <|
   ev_a (mo_rtz hfm) <| ev_a0) <|
  ev_b0
theorem ev_mo7 {cf : Nat → List Value → ev_W → Option ev_R} {α : Type} {r : α} {fin : Option Value → ev_W → Nat → Option α} {wE nE : Nat} (hcm : ev_cm cf) (hfm : ∀ v w n, fin v w n = some r → w.length = wE ∧ n = nE) : ev_all2 (ev_ok (ev_Pm wE nE) r) 0 (ev_o7 cf fin) :=
  ev_b (
   ev_a (mo_ald) <|
   ev_a (mo_dup) <|
   ev_a (mo_get) <|
   ev_a (mo_no) <|
   ev_a (mo_no) <|
   ev_a (mo_psh) <|
   ev_a (mo_bin) <|
   ev_a (mo_ptf) <|
   ev_a (mo_no) <|
   ev_a (mo_no) <|
   ev_a (mo_ald) <|
   ev_a (mo_get) <|
   ev_a (mo_no) <|
   ev_a (mo_no) <|
   ev_a (mo_ast) <|
   ev_a (mo_ald) <| ev_a0) <|
  ev_b (
   ev_a (mo_get) <|
   ev_a (mo_no) <|
   ev_a (mo_no) <|
   ev_a (mo_ist) <|
   ev_a (mo_ald) <|
   ev_a (mo_psh) <|
   ev_a (mo_dx1) <|
   ev_a (mo_ptf) <|
   ev_a (mo_no) <|
   ev_a (mo_no) <|
   ev_a (mo_ist) <|
   ev_a (mo_ild) <|
   ev_a (mo_ild) <|
   ev_a (mo_cmp) <|
   ev_a (mo_no) <|
   ev_a (mo_no) <| ev_a0) <|
  ev_b (
   ev_a (mo_ald) <|
   ev_a (mo_ild) <|
   ev_a (mo_psh) <|
   ev_a (mo_stq) <|
   ev_a (mo_inc) <|
   ev_a (mo_no) <|
   ev_a (mo_no) <|
   ev_a (mo_jmp) <|
   ev_a (mo_no) <|
   ev_a (mo_no) <|
   ev_a (mo_rtv hfm) <| ev_a0) <|
  ev_b0
theorem ev_mo8 {cf : Nat → List Value → ev_W → Option ev_R} {α : Type} {r : α} {fin : Option Value → ev_W → Nat → Option α} {wE nE : Nat} (hcm : ev_cm cf) (hfm : ∀ v w n, fin v w n = some r → w.length = wE ∧ n = nE) : ev_all2 (ev_ok (ev_Pm wE nE) r) 0 (ev_o8 cf fin) :=
  ev_b (
   ev_a (mo_ald) <|
   ev_a (mo_get) <|
   ev_a (mo_no) <|
   ev_a (mo_no) <|
   ev_a (mo_aln) <|
   ev_a (mo_ist) <|
   ev_a (mo_ild) <|
   ev_a (mo_cm0) <|
   ev_a (mo_no) <|
   ev_a (mo_no) <|
   ev_a (mo_ald) <|
   ev_a (mo_get) <|
   ev_a (mo_no) <|
   ev_a (mo_no) <|
   ev_a (mo_gst) <|
   ev_a (mo_no) <| ev_a0) <|
  ev_b (
   ev_a (mo_no) <|
   ev_a (mo_acm) <|
   ev_a (mo_no) <|
   ev_a (mo_no) <|
   ev_a (mo_ild) <|
   ev_a (mo_ild) <|
   ev_a (mo_ild) <|
   ev_a (mo_bin) <|
   ev_a (mo_ild) <|
   ev_a (mo_psh) <|
   ev_a (mo_bin) <|
   ev_a (mo_no) <|
   ev_a (mo_no) <|
   ev_a (mo_no) <|
   ev_a (mo_ist) <|
   ev_a (mo_ald) <| ev_a0) <|
  ev_b (
   ev_a (mo_ald) <|
   ev_a (mo_get) <|
   ev_a (mo_no) <|
   ev_a (mo_no) <|
   ev_a (mo_ild) <|
   ev_a (mo_no) <|
   ev_a (mo_no) <|
   ev_a (mo_no) <|
   ev_a (mo_dx1) <|
   ev_a (mo_ptf) <|
   ev_a (mo_no) <|
   ev_a (mo_no) <|
   ev_a (mo_rta hfm) <|
   ev_a (mo_ald) <|
   ev_a (mo_psh) <|
   ev_a (mo_no) <| ev_a0) <|
  ev_b (
   ev_a (mo_ild) <|
   ev_a (mo_mx) <|
   ev_a (mo_no) <|
   ev_a (mo_no) <|
   ev_a (mo_nwa) <|
   ev_a (mo_no) <|
   ev_a (mo_no) <|
   ev_a (mo_dx1) <|
   ev_a (mo_ptf) <|
   ev_a (mo_no) <|
   ev_a (mo_no) <|
   ev_a (mo_rta hfm) <| ev_a0) <|
  ev_b0
theorem ev_mo9 {cf : Nat → List Value → ev_W → Option ev_R} {α : Type} {r : α} {fin : Option Value → ev_W → Nat → Option α} {wE nE : Nat} (hcm : ev_cm cf) (hfm : ∀ v w n, fin v w n = some r → w.length = wE ∧ n = nE) : ev_all2 (ev_ok (ev_Pm wE nE) r) 0 (ev_o9 cf fin) :=
  ev_b (
   ev_a (mo_ald) <|
   ev_a (mo_ald) <|
   ev_a (mo_get) <|
   ev_a (mo_no) <|
   ev_a (mo_no) <|
   ev_a (mo_psh) <|
   ev_a (mo_bin) <|
   ev_a (mo_inr hcm) <|
   ev_a (mo_no) <|
   ev_a (mo_no) <|
   ev_a (mo_rta hfm) <| ev_a0) <|
  ev_b0
theorem ev_mo10 {cf : Nat → List Value → ev_W → Option ev_R} {α : Type} {r : α} {fin : Option Value → ev_W → Nat → Option α} {wE nE : Nat} (hcm : ev_cm cf) (hfm : ∀ v w n, fin v w n = some r → w.length = wE ∧ n = nE) : ev_all2 (ev_ok (ev_Pm wE nE) r) 0 (ev_o10 cf fin) :=
  ev_b (
   ev_a (mo_ald) <|
   ev_a (mo_ini hcm) <|
   ev_a (mo_no) <|
   ev_a (mo_no) <|
   ev_a (mo_ald) <|
   ev_a (mo_gst) <|
   ev_a (mo_no) <|
   ev_a (mo_no) <|
   ev_a (mo_ptf) <|
   ev_a (mo_no) <|
   ev_a (mo_no) <|
   ev_a (mo_rtv hfm) <| ev_a0) <|
  ev_b0
theorem ev_mo11 {cf : Nat → List Value → ev_W → Option ev_R} {α : Type} {r : α} {fin : Option Value → ev_W → Nat → Option α} {wE nE : Nat} (hcm : ev_cm cf) (hfm : ∀ v w n, fin v w n = some r → w.length = wE ∧ n = nE) : ev_all2 (ev_ok (ev_Pm wE nE) r) 0 (ev_o11 cf fin) :=
  ev_b (
   ev_a (mo_new) <|
   ev_a (mo_no) <|
   ev_a (mo_no) <|
   ev_a (mo_dup) <|
   ev_a (mo_ald) <|
   ev_a (mo_ini hcm) <|
   ev_a (mo_no) <|
   ev_a (mo_no) <|
   ev_a (mo_rta hfm) <| ev_a0) <|
  ev_b0
theorem ev_mo12 {cf : Nat → List Value → ev_W → Option ev_R} {α : Type} {r : α} {fin : Option Value → ev_W → Nat → Option α} {wE nE : Nat} (hcm : ev_cm cf) (hfm : ∀ v w n, fin v w n = some r → w.length = wE ∧ n = nE) : ev_all2 (ev_ok (ev_Pm wE nE) r) 0 (ev_o12 cf fin) :=
  ev_b (
   ev_a (mo_ald) <|
   ev_a (mo_get) <|
   ev_a (mo_no) <|
   ev_a (mo_no) <|
   ev_a (mo_rti hfm) <| ev_a0) <|
  ev_b0
theorem ev_mo13 {cf : Nat → List Value → ev_W → Option ev_R} {α : Type} {r : α} {fin : Option Value → ev_W → Nat → Option α} {wE nE : Nat} (hcm : ev_cm cf) (hfm : ∀ v w n, fin v w n = some r → w.length = wE ∧ n = nE) : ev_all2 (ev_ok (ev_Pm wE nE) r) 0 (ev_o13 cf fin) :=
  ev_b (
   ev_a (mo_ald) <|
   ev_a (mo_obj) <|
   ev_a (mo_no) <|
   ev_a (mo_no) <|
   ev_a (mo_rtv hfm) <| ev_a0) <|
  ev_b0
theorem ev_mo14 {cf : Nat → List Value → ev_W → Option ev_R} {α : Type} {r : α} {fin : Option Value → ev_W → Nat → Option α} {wE nE : Nat} (hcm : ev_cm cf) (hfm : ∀ v w n, fin v w n = some r → w.length = wE ∧ n = nE) : ev_all2 (ev_ok (ev_Pm wE nE) r) 0 (ev_o14 cf fin) :=
  ev_b (
   ev_a (mo_ald) <|
   ev_a (mo_ini hcm) <|
   ev_a (mo_no) <|
   ev_a (mo_no) <|
   ev_a (mo_ald) <|
   ev_a (mo_psh) <|
   ev_a (mo_ptf) <|
   ev_a (mo_no) <|
   ev_a (mo_no) <|
   ev_a (mo_rtv hfm) <| ev_a0) <|
  ev_b0
theorem ev_mo15 {cf : Nat → List Value → ev_W → Option ev_R} {α : Type} {r : α} {fin : Option Value → ev_W → Nat → Option α} {wE nE : Nat} (hcm : ev_cm cf) (hfm : ∀ v w n, fin v w n = some r → w.length = wE ∧ n = nE) : ev_all2 (ev_ok (ev_Pm wE nE) r) 0 (ev_o15 cf fin) :=
  ev_b (
   ev_a (mo_ald) <|
   ev_a (mo_ald) <|
   ev_a (mo_inr hcm) <|
   ev_a (mo_no) <|
   ev_a (mo_no) <|
   ev_a (mo_i2l) <|
   ev_a (mo_ptf) <|
   ev_a (mo_no) <|
   ev_a (mo_no) <|
   ev_a (mo_jmp) <|
   ev_a (mo_no) <|
   ev_a (mo_no) <|
   ev_a (mo_ast) <|
   ev_a (mo_psh) <|
   ev_a (mo_rti hfm) <|
   ev_a (mo_psh) <| ev_a0) <|
  ev_b (
   ev_a (mo_rti hfm) <| ev_a0) <|
  ev_b0
theorem ev_mo17 {cf : Nat → List Value → ev_W → Option ev_R} {α : Type} {r : α} {fin : Option Value → ev_W → Nat → Option α} {wE nE : Nat} (hcm : ev_cm cf) (hfm : ∀ v w n, fin v w n = some r → w.length = wE ∧ n = nE) : ev_all2 (ev_ok (ev_Pm wE nE) r) 0 (ev_o17 cf fin) :=
  ev_b (
   ev_a (mo_ald) <|
   ev_a (mo_ald) <|
   ev_a (mo_ild) <|
   ev_a (mo_ild) <|
   ev_a (mo_inr hcm) <|
   ev_a (mo_no) <|
   ev_a (mo_no) <|
   ev_a (mo_i2l) <|
   ev_a (mo_ptf) <|
   ev_a (mo_no) <|
   ev_a (mo_no) <|
   ev_a (mo_jmp) <|
   ev_a (mo_no) <|
   ev_a (mo_no) <|
   ev_a (mo_ast) <|
   ev_a (mo_no) <| ev_a0) <|
  ev_b (
   ev_a (mo_psh) <|
   ev_a (mo_rti hfm) <|
   ev_a (mo_ast) <|
   ev_a (mo_no) <|
   ev_a (mo_psh) <|
   ev_a (mo_rti hfm) <|
   ev_a (mo_psh) <|
   ev_a (mo_rti hfm) <| ev_a0) <|
  ev_b0
theorem ev_mo18 {cf : Nat → List Value → ev_W → Option ev_R} {α : Type} {r : α} {fin : Option Value → ev_W → Nat → Option α} {wE nE : Nat} (hcm : ev_cm cf) (hfm : ∀ v w n, fin v w n = some r → w.length = wE ∧ n = nE) : ev_all2 (ev_ok (ev_Pm wE nE) r) 0 (ev_o18 cf fin) :=
  ev_b (
   ev_a (mo_ald) <|
   ev_a (mo_ald) <|
   ev_a (mo_ild) <|
   ev_a (mo_inr hcm) <|
   ev_a (mo_no) <|
   ev_a (mo_no) <|
   ev_a (mo_i2l) <|
   ev_a (mo_ptf) <|
   ev_a (mo_no) <|
   ev_a (mo_no) <|
   ev_a (mo_jmp) <|
   ev_a (mo_no) <|
   ev_a (mo_no) <|
   ev_a (mo_ast) <|
   ev_a (mo_psh) <|
   ev_a (mo_rti hfm) <| ev_a0) <|
  ev_b (
   ev_a (mo_ast) <|
   ev_a (mo_psh) <|
   ev_a (mo_rti hfm) <|
   ev_a (mo_psh) <|
   ev_a (mo_rti hfm) <| ev_a0) <|
  ev_b0
theorem ev_mo19 {cf : Nat → List Value → ev_W → Option ev_R} {α : Type} {r : α} {fin : Option Value → ev_W → Nat → Option α} {wE nE : Nat} (hcm : ev_cm cf) (hfm : ∀ v w n, fin v w n = some r → w.length = wE ∧ n = nE) : ev_all2 (ev_ok (ev_Pm wE nE) r) 0 (ev_o19 cf fin) :=
  ev_b (
   ev_a (mo_ald) <|
   ev_a (mo_get) <|
   ev_a (mo_no) <|
   ev_a (mo_no) <|
   ev_a (mo_ald) <|
   ev_a (mo_get) <|
   ev_a (mo_no) <|
   ev_a (mo_no) <|
   ev_a (mo_ild) <|
   ev_a (mo_inv hcm) <|
   ev_a (mo_no) <|
   ev_a (mo_no) <|
   ev_a (mo_ald) <|
   ev_a (mo_get) <|
   ev_a (mo_no) <|
   ev_a (mo_no) <| ev_a0) <|
  ev_b (
   ev_a (mo_ald) <|
   ev_a (mo_get) <|
   ev_a (mo_no) <|
   ev_a (mo_no) <|
   ev_a (mo_ild) <|
   ev_a (mo_inv hcm) <|
   ev_a (mo_no) <|
   ev_a (mo_no) <|
   ev_a (mo_ald) <|
   ev_a (mo_dup) <|
   ev_a (mo_get) <|
   ev_a (mo_no) <|
   ev_a (mo_no) <|
   ev_a (mo_psh) <|
   ev_a (mo_bin) <|
   ev_a (mo_ptf) <| ev_a0) <|
  ev_b (
   ev_a (mo_no) <|
   ev_a (mo_no) <|
   ev_a (mo_ald) <|
   ev_a (mo_get) <|
   ev_a (mo_no) <|
   ev_a (mo_no) <|
   ev_a (mo_rti hfm) <| ev_a0) <|
  ev_b0
theorem ev_mo20 {cf : Nat → List Value → ev_W → Option ev_R} {α : Type} {r : α} {fin : Option Value → ev_W → Nat → Option α} {wE nE : Nat} (hcm : ev_cm cf) (hfm : ∀ v w n, fin v w n = some r → w.length = wE ∧ n = nE) : ev_all2 (ev_ok (ev_Pm wE nE) r) 0 (ev_o20 cf fin) :=
  ev_b (
   ev_a (mo_ald) <|
   ev_a (mo_get) <|
   ev_a (mo_no) <|
   ev_a (mo_no) <|
   ev_a (mo_ist) <|
   ev_a (mo_ald) <|
   ev_a (mo_psh) <|
   ev_a (mo_ptf) <|
   ev_a (mo_no) <|
   ev_a (mo_no) <|
   ev_a (mo_ild) <|
   ev_a (mo_rti hfm) <| ev_a0) <|
  ev_b0
theorem ev_mo21 {cf : Nat → List Value → ev_W → Option ev_R} {α : Type} {r : α} {fin : Option Value → ev_W → Nat → Option α} {wE nE : Nat} (hcm : ev_cm cf) (hfm : ∀ v w n, fin v w n = some r → w.length = wE ∧ n = nE) : ev_all2 (ev_ok (ev_Pm wE nE) r) 0 (ev_o21 cf fin) :=
  ev_b (
   ev_a (mo_ald) <|
   ev_a (mo_obj) <|
   ev_a (mo_no) <|
   ev_a (mo_no) <|
   ev_a (mo_ald) <|
   ev_a (mo_psh) <|
   ev_a (mo_no) <|
   ev_a (mo_nwa) <|
   ev_a (mo_no) <|
   ev_a (mo_ptf) <|
   ev_a (mo_no) <|
   ev_a (mo_no) <|
   ev_a (mo_ald) <|
   ev_a (mo_psh) <|
   ev_a (mo_no) <|
   ev_a (mo_nwa) <| ev_a0) <|
  ev_b (
   ev_a (mo_no) <|
   ev_a (mo_ptf) <|
   ev_a (mo_no) <|
   ev_a (mo_no) <|
   ev_a (mo_rtv hfm) <| ev_a0) <|
  ev_b0
theorem ev_mo22 {cf : Nat → List Value → ev_W → Option ev_R} {α : Type} {r : α} {fin : Option Value → ev_W → Nat → Option α} {wE nE : Nat} (hcm : ev_cm cf) (hfm : ∀ v w n, fin v w n = some r → w.length = wE ∧ n = nE) : ev_all2 (ev_ok (ev_Pm wE nE) r) 0 (ev_o22 cf fin) :=
  ev_b (
   ev_a (mo_ild) <|
   ev_a (mo_cm0) <|
   ev_a (mo_no) <|
   ev_a (mo_no) <|
   ev_a (mo_ild) <|
   ev_a (mo_ald) <|
   ev_a (mo_aln) <|
   ev_a (mo_cmp) <|
   ev_a (mo_no) <|
   ev_a (mo_no) <|
   ev_a (mo_ald) <|
   ev_a (mo_ild) <|
   ev_a (mo_ldi) <|
   ev_a (mo_jmp) <|
   ev_a (mo_no) <|
   ev_a (mo_no) <| ev_a0) <|
  ev_b (
   ev_a (mo_ild) <|
   ev_a (mo_rti hfm) <| ev_a0) <|
  ev_b0
theorem ev_mo23 {cf : Nat → List Value → ev_W → Option ev_R} {α : Type} {r : α} {fin : Option Value → ev_W → Nat → Option α} {wE nE : Nat} (hcm : ev_cm cf) (hfm : ∀ v w n, fin v w n = some r → w.length = wE ∧ n = nE) : ev_all2 (ev_ok (ev_Pm wE nE) r) 0 (ev_o23 cf fin) :=
  ev_b (
   ev_a (mo_ald) <|
   ev_a (mo_inr hcm) <|
   ev_a (mo_no) <|
   ev_a (mo_no) <|
   ev_a (mo_ald) <|
   ev_a (mo_get) <|
   ev_a (mo_no) <|
   ev_a (mo_no) <|
   ev_a (mo_ald) <|
   ev_a (mo_get) <|
   ev_a (mo_no) <|
   ev_a (mo_no) <|
   ev_a (mo_inr hcm) <|
   ev_a (mo_no) <|
   ev_a (mo_no) <|
   ev_a (mo_rti hfm) <| ev_a0) <|
  ev_b0
theorem ev_mo24 {cf : Nat → List Value → ev_W → Option ev_R} {α : Type} {r : α} {fin : Option Value → ev_W → Nat → Option α} {wE nE : Nat} (hcm : ev_cm cf) (hfm : ∀ v w n, fin v w n = some r → w.length = wE ∧ n = nE) : ev_all2 (ev_ok (ev_Pm wE nE) r) 0 (ev_o24 cf fin) :=
  ev_b (
   ev_a (mo_ald) <|
   ev_a (mo_get) <|
   ev_a (mo_no) <|
   ev_a (mo_no) <|
   ev_a (mo_get) <|
   ev_a (mo_no) <|
   ev_a (mo_no) <|
   ev_a (mo_psh) <|
   ev_a (mo_no) <|
   ev_a (mo_cmp) <|
   ev_a (mo_no) <|
   ev_a (mo_no) <|
   ev_a (mo_no) <|
   ev_a (mo_no) <|
   ev_a (mo_no) <|
   ev_a (mo_dup) <| ev_a0) <|
  ev_b (
   ev_a (mo_no) <|
   ev_a (mo_no) <|
   ev_a (mo_no) <|
   ev_a (mo_no) <|
   ev_a (mo_no) <|
   ev_a (mo_no) <|
   ev_a (mo_no) <|
   ev_a (mo_rtv hfm) <| ev_a0) <|
  ev_b0
theorem ev_mo25 {cf : Nat → List Value → ev_W → Option ev_R} {α : Type} {r : α} {fin : Option Value → ev_W → Nat → Option α} {wE nE : Nat} (hcm : ev_cm cf) (hfm : ∀ v w n, fin v w n = some r → w.length = wE ∧ n = nE) : ev_all2 (ev_ok (ev_Pm wE nE) r) 0 (ev_o25 cf fin) :=
  ev_b (
   ev_a (mo_ild) <|
   ev_a (mo_cm0) <|
   ev_a (mo_no) <|
   ev_a (mo_no) <|
   ev_a (mo_ild) <|
   ev_a (mo_psh) <|
   ev_a (mo_no) <|
   ev_a (mo_no) <|
   ev_a (mo_cmp) <|
   ev_a (mo_no) <|
   ev_a (mo_no) <|
   ev_a (mo_ild) <|
   ev_a (mo_psh) <|
   ev_a (mo_no) <|
   ev_a (mo_div) <|
   ev_a (mo_psh) <| ev_a0) <|
  ev_b (
   ev_a (mo_no) <|
   ev_a (mo_div) <|
   ev_a (mo_psh) <|
   ev_a (mo_no) <|
   ev_a (mo_cmp) <|
   ev_a (mo_no) <|
   ev_a (mo_no) <|
   ev_a (mo_ild) <|
   ev_a (mo_psh) <|
   ev_a (mo_no) <|
   ev_a (mo_div) <|
   ev_a (mo_psh) <|
   ev_a (mo_no) <|
   ev_a (mo_cmp) <|
   ev_a (mo_no) <|
   ev_a (mo_no) <| ev_a0) <|
  ev_b (
   ev_a (mo_no) <|
   ev_a (mo_no) <|
   ev_a (mo_no) <|
   ev_a (mo_dup) <|
   ev_a (mo_no) <|
   ev_a (mo_no) <|
   ev_a (mo_no) <|
   ev_a (mo_no) <|
   ev_a (mo_no) <|
   ev_a (mo_no) <|
   ev_a (mo_no) <|
   ev_a (mo_rtv hfm) <| ev_a0) <|
  ev_b0
theorem ev_mo26 {cf : Nat → List Value → ev_W → Option ev_R} {α : Type} {r : α} {fin : Option Value → ev_W → Nat → Option α} {wE nE : Nat} (hcm : ev_cm cf) (hfm : ∀ v w n, fin v w n = some r → w.length = wE ∧ n = nE) : ev_all2 (ev_ok (ev_Pm wE nE) r) 0 (ev_o26 cf fin) :=
  ev_b (
   ev_a (mo_ald) <|
   ev_a (mo_get) <|
   ev_a (mo_no) <|
   ev_a (mo_no) <|
   ev_a (mo_psh) <|
   ev_a (mo_no) <|
   ev_a (mo_cmp) <|
   ev_a (mo_no) <|
   ev_a (mo_no) <|
   ev_a (mo_no) <|
   ev_a (mo_no) <|
   ev_a (mo_no) <|
   ev_a (mo_dup) <|
   ev_a (mo_no) <|
   ev_a (mo_no) <|
   ev_a (mo_no) <| ev_a0) <|
  ev_b (
   ev_a (mo_no) <|
   ev_a (mo_no) <|
   ev_a (mo_no) <|
   ev_a (mo_ald) <|
   ev_a (mo_inr hcm) <|
   ev_a (mo_no) <|
   ev_a (mo_no) <|
   ev_a (mo_ald) <|
   ev_a (mo_get) <|
   ev_a (mo_no) <|
   ev_a (mo_no) <|
   ev_a (mo_get) <|
   ev_a (mo_no) <|
   ev_a (mo_no) <|
   ev_a (mo_psh) <|
   ev_a (mo_no) <| ev_a0) <|
  ev_b (
   ev_a (mo_cmp) <|
   ev_a (mo_no) <|
   ev_a (mo_no) <|
   ev_a (mo_no) <|
   ev_a (mo_no) <|
   ev_a (mo_no) <|
   ev_a (mo_dup) <|
   ev_a (mo_no) <|
   ev_a (mo_no) <|
   ev_a (mo_no) <|
   ev_a (mo_no) <|
   ev_a (mo_no) <|
   ev_a (mo_no) <|
   ev_a (mo_ald) <|
   ev_a (mo_get) <|
   ev_a (mo_no) <| ev_a0) <|
  ev_b (
   ev_a (mo_no) <|
   ev_a (mo_ald) <|
   ev_a (mo_get) <|
   ev_a (mo_no) <|
   ev_a (mo_no) <|
   ev_a (mo_inr hcm) <|
   ev_a (mo_no) <|
   ev_a (mo_no) <|
   ev_a (mo_cm0) <|
   ev_a (mo_no) <|
   ev_a (mo_no) <|
   ev_a (mo_no) <|
   ev_a (mo_no) <|
   ev_a (mo_no) <|
   ev_a (mo_dup) <|
   ev_a (mo_no) <| ev_a0) <|
  ev_b (
   ev_a (mo_no) <|
   ev_a (mo_no) <|
   ev_a (mo_no) <|
   ev_a (mo_no) <|
   ev_a (mo_no) <|
   ev_a (mo_ald) <|
   ev_a (mo_dup) <|
   ev_a (mo_get) <|
   ev_a (mo_no) <|
   ev_a (mo_no) <|
   ev_a (mo_psh) <|
   ev_a (mo_bin) <|
   ev_a (mo_ptf) <|
   ev_a (mo_no) <|
   ev_a (mo_no) <|
   ev_a (mo_ald) <| ev_a0) <|
  ev_b (
   ev_a (mo_get) <|
   ev_a (mo_no) <|
   ev_a (mo_no) <|
   ev_a (mo_ald) <|
   ev_a (mo_get) <|
   ev_a (mo_no) <|
   ev_a (mo_no) <|
   ev_a (mo_inr hcm) <|
   ev_a (mo_no) <|
   ev_a (mo_no) <|
   ev_a (mo_ald) <|
   ev_a (mo_get) <|
   ev_a (mo_no) <|
   ev_a (mo_no) <|
   ev_a (mo_inr hcm) <|
   ev_a (mo_no) <| ev_a0) <|
  ev_b (
   ev_a (mo_no) <|
   ev_a (mo_drop) <|
   ev_a (mo_ald) <|
   ev_a (mo_inr hcm) <|
   ev_a (mo_no) <|
   ev_a (mo_no) <|
   ev_a (mo_ald) <|
   ev_a (mo_get) <|
   ev_a (mo_no) <|
   ev_a (mo_no) <|
   ev_a (mo_rti hfm) <| ev_a0) <|
  ev_b0
theorem ev_mo27 {cf : Nat → List Value → ev_W → Option ev_R} {α : Type} {r : α} {fin : Option Value → ev_W → Nat → Option α} {wE nE : Nat} (hcm : ev_cm cf) (hfm : ∀ v w n, fin v w n = some r → w.length = wE ∧ n = nE) : ev_all2 (ev_ok (ev_Pm wE nE) r) 0 (ev_o27 cf fin) :=
  ev_b (
   ev_a (mo_psh) <|
   ev_a (mo_ist) <|
   ev_a (mo_ild) <|
   ev_a (mo_ild) <|
   ev_a (mo_cmp) <|
   ev_a (mo_no) <|
   ev_a (mo_no) <|
   ev_a (mo_ild) <|
   ev_a (mo_ald) <|
   ev_a (mo_aln) <|
   ev_a (mo_cmp) <|
   ev_a (mo_no) <|
   ev_a (mo_no) <|
   ev_a (mo_ild) <|
   ev_a (mo_ald) <|
   ev_a (mo_aln) <| ev_a0) <|
  ev_b (
   ev_a (mo_cmp) <|
   ev_a (mo_no) <|
   ev_a (mo_no) <|
   ev_a (mo_ald) <|
   ev_a (mo_ild) <|
   ev_a (mo_ald) <|
   ev_a (mo_ild) <|
   ev_a (mo_ldi) <|
   ev_a (mo_sti) <|
   ev_a (mo_inc) <|
   ev_a (mo_no) <|
   ev_a (mo_no) <|
   ev_a (mo_jmp) <|
   ev_a (mo_no) <|
   ev_a (mo_no) <|
   ev_a (mo_rtv hfm) <| ev_a0) <|
  ev_b0
theorem ev_mo28 {cf : Nat → List Value → ev_W → Option ev_R} {α : Type} {r : α} {fin : Option Value → ev_W → Nat → Option α} {wE nE : Nat} (hcm : ev_cm cf) (hfm : ∀ v w n, fin v w n = some r → w.length = wE ∧ n = nE) : ev_all2 (ev_ok (ev_Pm wE nE) r) 0 (ev_o28 cf fin) :=
  ev_b (
   ev_a (mo_psh) <|
   ev_a (mo_ist) <|
   ev_a (mo_ild) <|
   ev_a (mo_ald) <|
   ev_a (mo_aln) <|
   ev_a (mo_cmp) <|
   ev_a (mo_no) <|
   ev_a (mo_no) <|
   ev_a (mo_ald) <|
   ev_a (mo_ild) <|
   ev_a (mo_ild) <|
   ev_a (mo_sti) <|
   ev_a (mo_inc) <|
   ev_a (mo_no) <|
   ev_a (mo_no) <|
   ev_a (mo_jmp) <| ev_a0) <|
  ev_b (
   ev_a (mo_no) <|
   ev_a (mo_no) <|
   ev_a (mo_rtv hfm) <| ev_a0) <|
  ev_b0
theorem ev_mo29 {cf : Nat → List Value → ev_W → Option ev_R} {α : Type} {r : α} {fin : Option Value → ev_W → Nat → Option α} {wE nE : Nat} (hcm : ev_cm cf) (hfm : ∀ v w n, fin v w n = some r → w.length = wE ∧ n = nE) : ev_all2 (ev_ok (ev_Pm wE nE) r) 0 (ev_o29 cf fin) :=
  ev_b (
   ev_a (mo_ald) <|
   ev_a (mo_obj) <|
   ev_a (mo_no) <|
   ev_a (mo_no) <|
   ev_a (mo_ald) <|
   ev_a (mo_new) <|
   ev_a (mo_no) <|
   ev_a (mo_no) <|
   ev_a (mo_dup) <|
   ev_a (mo_ini hcm) <|
   ev_a (mo_no) <|
   ev_a (mo_no) <|
   ev_a (mo_ptf) <|
   ev_a (mo_no) <|
   ev_a (mo_no) <|
   ev_a (mo_ald) <| ev_a0) <|
  ev_b (
   ev_a (mo_new) <|
   ev_a (mo_no) <|
   ev_a (mo_no) <|
   ev_a (mo_dup) <|
   ev_a (mo_ini hcm) <|
   ev_a (mo_no) <|
   ev_a (mo_no) <|
   ev_a (mo_ptf) <|
   ev_a (mo_no) <|
   ev_a (mo_no) <|
   ev_a (mo_ald) <|
   ev_a (mo_new) <|
   ev_a (mo_no) <|
   ev_a (mo_no) <|
   ev_a (mo_dup) <|
   ev_a (mo_ini hcm) <| ev_a0) <|
  ev_b (
   ev_a (mo_no) <|
   ev_a (mo_no) <|
   ev_a (mo_ptf) <|
   ev_a (mo_no) <|
   ev_a (mo_no) <|
   ev_a (mo_ald) <|
   ev_a (mo_new) <|
   ev_a (mo_no) <|
   ev_a (mo_no) <|
   ev_a (mo_dup) <|
   ev_a (mo_ini hcm) <|
   ev_a (mo_no) <|
   ev_a (mo_no) <|
   ev_a (mo_ptf) <|
   ev_a (mo_no) <|
   ev_a (mo_no) <| ev_a0) <|
  ev_b (
   ev_a (mo_ald) <|
   ev_a (mo_new) <|
   ev_a (mo_no) <|
   ev_a (mo_no) <|
   ev_a (mo_dup) <|
   ev_a (mo_ini hcm) <|
   ev_a (mo_no) <|
   ev_a (mo_no) <|
   ev_a (mo_ptf) <|
   ev_a (mo_no) <|
   ev_a (mo_no) <|
   ev_a (mo_ald) <|
   ev_a (mo_new) <|
   ev_a (mo_no) <|
   ev_a (mo_no) <|
   ev_a (mo_dup) <| ev_a0) <|
  ev_b (
   ev_a (mo_ini hcm) <|
   ev_a (mo_no) <|
   ev_a (mo_no) <|
   ev_a (mo_ptf) <|
   ev_a (mo_no) <|
   ev_a (mo_no) <|
   ev_a (mo_ald) <|
   ev_a (mo_new) <|
   ev_a (mo_no) <|
   ev_a (mo_no) <|
   ev_a (mo_dup) <|
   ev_a (mo_ini hcm) <|
   ev_a (mo_no) <|
   ev_a (mo_no) <|
   ev_a (mo_ptf) <|
   ev_a (mo_no) <| ev_a0) <|
  ev_b (
   ev_a (mo_no) <|
   ev_a (mo_ald) <|
   ev_a (mo_new) <|
   ev_a (mo_no) <|
   ev_a (mo_no) <|
   ev_a (mo_dup) <|
   ev_a (mo_ini hcm) <|
   ev_a (mo_no) <|
   ev_a (mo_no) <|
   ev_a (mo_ptf) <|
   ev_a (mo_no) <|
   ev_a (mo_no) <|
   ev_a (mo_ald) <|
   ev_a (mo_new) <|
   ev_a (mo_no) <|
   ev_a (mo_no) <| ev_a0) <|
  ev_b (
   ev_a (mo_dup) <|
   ev_a (mo_ini hcm) <|
   ev_a (mo_no) <|
   ev_a (mo_no) <|
   ev_a (mo_ptf) <|
   ev_a (mo_no) <|
   ev_a (mo_no) <|
   ev_a (mo_ald) <|
   ev_a (mo_new) <|
   ev_a (mo_no) <|
   ev_a (mo_no) <|
   ev_a (mo_dup) <|
   ev_a (mo_ini hcm) <|
   ev_a (mo_no) <|
   ev_a (mo_no) <|
   ev_a (mo_ptf) <| ev_a0) <|
  ev_b (
   ev_a (mo_no) <|
   ev_a (mo_no) <|
   ev_a (mo_ald) <|
   ev_a (mo_new) <|
   ev_a (mo_no) <|
   ev_a (mo_no) <|
   ev_a (mo_dup) <|
   ev_a (mo_ini hcm) <|
   ev_a (mo_no) <|
   ev_a (mo_no) <|
   ev_a (mo_ptf) <|
   ev_a (mo_no) <|
   ev_a (mo_no) <|
   ev_a (mo_ald) <|
   ev_a (mo_new) <|
   ev_a (mo_no) <| ev_a0) <|
  ev_b (
   ev_a (mo_no) <|
   ev_a (mo_dup) <|
   ev_a (mo_ini hcm) <|
   ev_a (mo_no) <|
   ev_a (mo_no) <|
   ev_a (mo_ptf) <|
   ev_a (mo_no) <|
   ev_a (mo_no) <|
   ev_a (mo_rtv hfm) <| ev_a0) <|
  ev_b0
theorem ev_mo30 {cf : Nat → List Value → ev_W → Option ev_R} {α : Type} {r : α} {fin : Option Value → ev_W → Nat → Option α} {wE nE : Nat} (hcm : ev_cm cf) (hfm : ∀ v w n, fin v w n = some r → w.length = wE ∧ n = nE) : ev_all2 (ev_ok (ev_Pm wE nE) r) 0 (ev_o30 cf fin) :=
  ev_b (
   ev_a (mo_ild) <|
   ev_a (mo_ild) <|
   ev_a (mo_bin) <|
   ev_a (mo_psh) <|
   ev_a (mo_bin) <|
   ev_a (mo_cm0) <|
   ev_a (mo_no) <|
   ev_a (mo_no) <|
   ev_a (mo_psh) <|
   ev_a (mo_jmp) <|
   ev_a (mo_no) <|
   ev_a (mo_no) <|
   ev_a (mo_psh) <|
   ev_a (mo_rtz hfm) <| ev_a0) <|
  ev_b0
theorem ev_mo31 {cf : Nat → List Value → ev_W → Option ev_R} {α : Type} {r : α} {fin : Option Value → ev_W → Nat → Option α} {wE nE : Nat} (hcm : ev_cm cf) (hfm : ∀ v w n, fin v w n = some r → w.length = wE ∧ n = nE) : ev_all2 (ev_ok (ev_Pm wE nE) r) 0 (ev_o31 cf fin) :=
  ev_b (
   ev_a (mo_ild) <|
   ev_a (mo_cm0) <|
   ev_a (mo_no) <|
   ev_a (mo_no) <|
   ev_a (mo_ild) <|
   ev_a (mo_ald) <|
   ev_a (mo_aln) <|
   ev_a (mo_cmp) <|
   ev_a (mo_no) <|
   ev_a (mo_no) <|
   ev_a (mo_ald) <|
   ev_a (mo_ild) <|
   ev_a (mo_ild) <|
   ev_a (mo_sti) <|
   ev_a (mo_rtv hfm) <| ev_a0) <|
  ev_b0
theorem ev_mo32 {cf : Nat → List Value → ev_W → Option ev_R} {α : Type} {r : α} {fin : Option Value → ev_W → Nat → Option α} {wE nE : Nat} (hcm : ev_cm cf) (hfm : ∀ v w n, fin v w n = some r → w.length = wE ∧ n = nE) : ev_all2 (ev_ok (ev_Pm wE nE) r) 0 (ev_o32 cf fin) :=
  ev_b (
   ev_a (mo_ild) <|
   ev_a (mo_inv hcm) <|
   ev_a (mo_no) <|
   ev_a (mo_no) <|
   ev_a (mo_ild) <|
   ev_a (mo_psh) <|
   ev_a (mo_cmp) <|
   ev_a (mo_no) <|
   ev_a (mo_no) <|
   ev_a (mo_ild) <|
   ev_a (mo_psh) <|
   ev_a (mo_no) <|
   ev_a (mo_cmp) <|
   ev_a (mo_no) <|
   ev_a (mo_no) <|
   ev_a (mo_no) <| ev_a0) <|
  ev_b (
   ev_a (mo_no) <|
   ev_a (mo_no) <|
   ev_a (mo_dup) <|
   ev_a (mo_no) <|
   ev_a (mo_no) <|
   ev_a (mo_no) <|
   ev_a (mo_no) <|
   ev_a (mo_no) <|
   ev_a (mo_no) <|
   ev_a (mo_ald) <|
   ev_a (mo_inr hcm) <|
   ev_a (mo_no) <|
   ev_a (mo_no) <|
   ev_a (mo_ald) <|
   ev_a (mo_get) <|
   ev_a (mo_no) <| ev_a0) <|
  ev_b (
   ev_a (mo_no) <|
   ev_a (mo_ild) <|
   ev_a (mo_ild) <|
   ev_a (mo_inr hcm) <|
   ev_a (mo_no) <|
   ev_a (mo_no) <|
   ev_a (mo_rti hfm) <| ev_a0) <|
  ev_b0
theorem ev_mo33 {cf : Nat → List Value → ev_W → Option ev_R} {α : Type} {r : α} {fin : Option Value → ev_W → Nat → Option α} {wE nE : Nat} (hcm : ev_cm cf) (hfm : ∀ v w n, fin v w n = some r → w.length = wE ∧ n = nE) : ev_all2 (ev_ok (ev_Pm wE nE) r) 0 (ev_o33 cf fin) :=
  ev_b (
   ev_a (mo_ald) <|
   ev_a (mo_get) <|
   ev_a (mo_no) <|
   ev_a (mo_no) <|
   ev_a (mo_ald) <|
   ev_a (mo_get) <|
   ev_a (mo_no) <|
   ev_a (mo_no) <|
   ev_a (mo_ald) <|
   ev_a (mo_get) <|
   ev_a (mo_no) <|
   ev_a (mo_no) <|
   ev_a (mo_inr hcm) <|
   ev_a (mo_no) <|
   ev_a (mo_no) <|
   ev_a (mo_ald) <| ev_a0) <|
  ev_b (
   ev_a (mo_psh) <|
   ev_a (mo_ptf) <|
   ev_a (mo_no) <|
   ev_a (mo_no) <|
   ev_a (mo_ald) <|
   ev_a (mo_psh) <|
   ev_a (mo_ptf) <|
   ev_a (mo_no) <|
   ev_a (mo_no) <|
   ev_a (mo_rtv hfm) <| ev_a0) <|
  ev_b0
theorem ev_mo34 {cf : Nat → List Value → ev_W → Option ev_R} {α : Type} {r : α} {fin : Option Value → ev_W → Nat → Option α} {wE nE : Nat} (hcm : ev_cm cf) (hfm : ∀ v w n, fin v w n = some r → w.length = wE ∧ n = nE) : ev_all2 (ev_ok (ev_Pm wE nE) r) 0 (ev_o34 cf fin) :=
  ev_b (
   ev_a (mo_ald) <|
   ev_a (mo_get) <|
   ev_a (mo_no) <|
   ev_a (mo_no) <|
   ev_a (mo_ald) <|
   ev_a (mo_get) <|
   ev_a (mo_no) <|
   ev_a (mo_no) <|
   ev_a (mo_inr hcm) <|
   ev_a (mo_no) <|
   ev_a (mo_no) <|
   ev_a (mo_ald) <|
   ev_a (mo_get) <|
   ev_a (mo_no) <|
   ev_a (mo_no) <|
   ev_a (mo_ald) <| ev_a0) <|
  ev_b (
   ev_a (mo_get) <|
   ev_a (mo_no) <|
   ev_a (mo_no) <|
   ev_a (mo_ald) <|
   ev_a (mo_get) <|
   ev_a (mo_no) <|
   ev_a (mo_no) <|
   ev_a (mo_psh) <|
   ev_a (mo_bin) <|
   ev_a (mo_ald) <|
   ev_a (mo_get) <|
   ev_a (mo_no) <|
   ev_a (mo_no) <|
   ev_a (mo_inr hcm) <|
   ev_a (mo_no) <|
   ev_a (mo_no) <| ev_a0) <|
  ev_b (
   ev_a (mo_ald) <|
   ev_a (mo_get) <|
   ev_a (mo_no) <|
   ev_a (mo_no) <|
   ev_a (mo_ald) <|
   ev_a (mo_get) <|
   ev_a (mo_no) <|
   ev_a (mo_no) <|
   ev_a (mo_ald) <|
   ev_a (mo_get) <|
   ev_a (mo_no) <|
   ev_a (mo_no) <|
   ev_a (mo_psh) <|
   ev_a (mo_bin) <|
   ev_a (mo_inr hcm) <|
   ev_a (mo_no) <| ev_a0) <|
  ev_b (
   ev_a (mo_no) <|
   ev_a (mo_rtv hfm) <| ev_a0) <|
  ev_b0
theorem ev_mo35 {cf : Nat → List Value → ev_W → Option ev_R} {α : Type} {r : α} {fin : Option Value → ev_W → Nat → Option α} {wE nE : Nat} (hcm : ev_cm cf) (hfm : ∀ v w n, fin v w n = some r → w.length = wE ∧ n = nE) : ev_all2 (ev_ok (ev_Pm wE nE) r) 0 (ev_o35 cf fin) :=
  ev_b (
   ev_a (mo_ild) <|
   ev_a (mo_inv hcm) <|
   ev_a (mo_no) <|
   ev_a (mo_no) <|
   ev_a (mo_ald) <|
   ev_a (mo_inr hcm) <|
   ev_a (mo_no) <|
   ev_a (mo_no) <|
   ev_a (mo_ald) <|
   ev_a (mo_get) <|
   ev_a (mo_no) <|
   ev_a (mo_no) <|
   ev_a (mo_ild) <|
   ev_a (mo_psh) <|
   ev_a (mo_inr hcm) <|
   ev_a (mo_no) <| ev_a0) <|
  ev_b (
   ev_a (mo_no) <|
   ev_a (mo_rti hfm) <| ev_a0) <|
  ev_b0
theorem ev_mo36 {cf : Nat → List Value → ev_W → Option ev_R} {α : Type} {r : α} {fin : Option Value → ev_W → Nat → Option α} {wE nE : Nat} (hcm : ev_cm cf) (hfm : ∀ v w n, fin v w n = some r → w.length = wE ∧ n = nE) : ev_all2 (ev_ok (ev_Pm wE nE) r) 0 (ev_o36 cf fin) :=
  ev_b (
   ev_a (mo_ald) <|
   ev_a (mo_obj) <|
   ev_a (mo_no) <|
   ev_a (mo_no) <|
   ev_a (mo_rtv hfm) <| ev_a0) <|
  ev_b0
theorem ev_mo37 {cf : Nat → List Value → ev_W → Option ev_R} {α : Type} {r : α} {fin : Option Value → ev_W → Nat → Option α} {wE nE : Nat} (hcm : ev_cm cf) (hfm : ∀ v w n, fin v w n = some r → w.length = wE ∧ n = nE) : ev_all2 (ev_ok (ev_Pm wE nE) r) 0 (ev_o37 cf fin) :=
  ev_b (
   ev_a (mo_ald) <|
   ev_a (mo_get) <|
   ev_a (mo_no) <|
   ev_a (mo_no) <|
   ev_a (mo_ild) <|
   ev_a (mo_cmp) <|
   ev_a (mo_no) <|
   ev_a (mo_no) <|
   ev_a (mo_ild) <|
   ev_a (mo_ald) <|
   ev_a (mo_get) <|
   ev_a (mo_no) <|
   ev_a (mo_no) <|
   ev_a (mo_cmp) <|
   ev_a (mo_no) <|
   ev_a (mo_no) <| ev_a0) <|
  ev_b (
   ev_a (mo_psh) <|
   ev_a (mo_jmp) <|
   ev_a (mo_no) <|
   ev_a (mo_no) <|
   ev_a (mo_psh) <|
   ev_a (mo_rtz hfm) <| ev_a0) <|
  ev_b0
theorem ev_mo38 {cf : Nat → List Value → ev_W → Option ev_R} {α : Type} {r : α} {fin : Option Value → ev_W → Nat → Option α} {wE nE : Nat} (hcm : ev_cm cf) (hfm : ∀ v w n, fin v w n = some r → w.length = wE ∧ n = nE) : ev_all2 (ev_ok (ev_Pm wE nE) r) 0 (ev_o38 cf fin) :=
  ev_b (
   ev_a (mo_ald) <|
   ev_a (mo_obj) <|
   ev_a (mo_no) <|
   ev_a (mo_no) <|
   ev_a (mo_ald) <|
   ev_a (mo_psh) <|
   ev_a (mo_no) <|
   ev_a (mo_no) <|
   ev_a (mo_ptf) <|
   ev_a (mo_no) <|
   ev_a (mo_no) <|
   ev_a (mo_rtv hfm) <| ev_a0) <|
  ev_b0
theorem ev_mo39 {cf : Nat → List Value → ev_W → Option ev_R} {α : Type} {r : α} {fin : Option Value → ev_W → Nat → Option α} {wE nE : Nat} (hcm : ev_cm cf) (hfm : ∀ v w n, fin v w n = some r → w.length = wE ∧ n = nE) : ev_all2 (ev_ok (ev_Pm wE nE) r) 0 (ev_o39 cf fin) :=
  ev_b (
   ev_a (mo_ald) <|
   ev_a (mo_ald) <|
   ev_a (mo_ild) <|
   ev_a (mo_psh) <|
   ev_a (mo_inr hcm) <|
   ev_a (mo_no) <|
   ev_a (mo_no) <|
   ev_a (mo_ast) <|
   ev_a (mo_psh) <|
   ev_a (mo_ist) <|
   ev_a (mo_no) <|
   ev_a (mo_psh) <|
   ev_a (mo_ist) <|
   ev_a (mo_no) <|
   ev_a (mo_ild) <|
   ev_a (mo_no) <| ev_a0) <|
  ev_b (
   ev_a (mo_psh) <|
   ev_a (mo_no) <|
   ev_a (mo_cmp) <|
   ev_a (mo_no) <|
   ev_a (mo_no) <|
   ev_a (mo_psh) <|
   ev_a (mo_ist) <|
   ev_a (mo_no) <|
   ev_a (mo_psh) <|
   ev_a (mo_ist) <|
   ev_a (mo_no) <|
   ev_a (mo_ild) <|
   ev_a (mo_no) <|
   ev_a (mo_psh) <|
   ev_a (mo_no) <|
   ev_a (mo_cmp) <| ev_a0) <|
  ev_b (
   ev_a (mo_no) <|
   ev_a (mo_no) <|
   ev_a (mo_psh) <|
   ev_a (mo_ist) <|
   ev_a (mo_no) <|
   ev_a (mo_psh) <|
   ev_a (mo_ist) <|
   ev_a (mo_no) <|
   ev_a (mo_ild) <|
   ev_a (mo_no) <|
   ev_a (mo_psh) <|
   ev_a (mo_no) <|
   ev_a (mo_cmp) <|
   ev_a (mo_no) <|
   ev_a (mo_no) <|
   ev_a (mo_ald) <| ev_a0) <|
  ev_b (
   ev_a (mo_get) <|
   ev_a (mo_no) <|
   ev_a (mo_no) <|
   ev_a (mo_ild) <|
   ev_a (mo_no) <|
   ev_a (mo_bin) <|
   ev_a (mo_psh) <|
   ev_a (mo_bin) <|
   ev_a (mo_psh) <|
   ev_a (mo_cmp) <|
   ev_a (mo_no) <|
   ev_a (mo_no) <|
   ev_a (mo_ild) <|
   ev_a (mo_no) <|
   ev_a (mo_ald) <|
   ev_a (mo_psh) <| ev_a0) <|
  ev_b (
   ev_a (mo_no) <|
   ev_a (mo_ild) <|
   ev_a (mo_no) <|
   ev_a (mo_bin) <|
   ev_a (mo_psh) <|
   ev_a (mo_no) <|
   ev_a (mo_ald) <|
   ev_a (mo_get) <|
   ev_a (mo_no) <|
   ev_a (mo_no) <|
   ev_a (mo_ild) <|
   ev_a (mo_no) <|
   ev_a (mo_ldi) <|
   ev_a (mo_bin) <|
   ev_a (mo_bin) <|
   ev_a (mo_ild) <| ev_a0) <|
  ev_b (
   ev_a (mo_no) <|
   ev_a (mo_bin) <|
   ev_a (mo_ldi) <|
   ev_a (mo_cm0) <|
   ev_a (mo_no) <|
   ev_a (mo_no) <|
   ev_a (mo_psh) <|
   ev_a (mo_jmp) <|
   ev_a (mo_no) <|
   ev_a (mo_no) <|
   ev_a (mo_psh) <|
   ev_a (mo_bin) <|
   ev_a (mo_ist) <|
   ev_a (mo_no) <|
   ev_a (mo_inc) <|
   ev_a (mo_no) <| ev_a0) <|
  ev_b (
   ev_a (mo_no) <|
   ev_a (mo_jmp) <|
   ev_a (mo_no) <|
   ev_a (mo_no) <|
   ev_a (mo_ild) <|
   ev_a (mo_no) <|
   ev_a (mo_ild) <|
   ev_a (mo_no) <|
   ev_a (mo_psh) <|
   ev_a (mo_cmp) <|
   ev_a (mo_no) <|
   ev_a (mo_no) <|
   ev_a (mo_psh) <|
   ev_a (mo_jmp) <|
   ev_a (mo_no) <|
   ev_a (mo_no) <| ev_a0) <|
  ev_b (
   ev_a (mo_psh) <|
   ev_a (mo_bin) <|
   ev_a (mo_ist) <|
   ev_a (mo_no) <|
   ev_a (mo_inc) <|
   ev_a (mo_no) <|
   ev_a (mo_no) <|
   ev_a (mo_jmp) <|
   ev_a (mo_no) <|
   ev_a (mo_no) <|
   ev_a (mo_ild) <|
   ev_a (mo_no) <|
   ev_a (mo_ild) <|
   ev_a (mo_no) <|
   ev_a (mo_cm0) <|
   ev_a (mo_no) <| ev_a0) <|
  ev_b (
   ev_a (mo_no) <|
   ev_a (mo_psh) <|
   ev_a (mo_jmp) <|
   ev_a (mo_no) <|
   ev_a (mo_no) <|
   ev_a (mo_psh) <|
   ev_a (mo_bin) <|
   ev_a (mo_ist) <|
   ev_a (mo_no) <|
   ev_a (mo_inc) <|
   ev_a (mo_no) <|
   ev_a (mo_no) <|
   ev_a (mo_jmp) <|
   ev_a (mo_no) <|
   ev_a (mo_no) <|
   ev_a (mo_ild) <| ev_a0) <|
  ev_b (
   ev_a (mo_no) <|
   ev_a (mo_rti hfm) <| ev_a0) <|
  ev_b0
theorem ev_mo40 {cf : Nat → List Value → ev_W → Option ev_R} {α : Type} {r : α} {fin : Option Value → ev_W → Nat → Option α} {wE nE : Nat} (hcm : ev_cm cf) (hfm : ∀ v w n, fin v w n = some r → w.length = wE ∧ n = nE) : ev_all2 (ev_ok (ev_Pm wE nE) r) 0 (ev_o40 cf fin) :=
  ev_b (
   ev_a (mo_ald) <|
   ev_a (mo_psh) <|
   ev_a (mo_ptf) <|
   ev_a (mo_no) <|
   ev_a (mo_no) <|
   ev_a (mo_ald) <|
   ev_a (mo_ald) <|
   ev_a (mo_inr hcm) <|
   ev_a (mo_no) <|
   ev_a (mo_no) <|
   ev_a (mo_ald) <|
   ev_a (mo_get) <|
   ev_a (mo_no) <|
   ev_a (mo_no) <|
   ev_a (mo_psh) <|
   ev_a (mo_bin) <| ev_a0) <|
  ev_b (
   ev_a (mo_inr hcm) <|
   ev_a (mo_no) <|
   ev_a (mo_no) <|
   ev_a (mo_rti hfm) <| ev_a0) <|
  ev_b0
theorem ev_mo41 {cf : Nat → List Value → ev_W → Option ev_R} {α : Type} {r : α} {fin : Option Value → ev_W → Nat → Option α} {wE nE : Nat} (hcm : ev_cm cf) (hfm : ∀ v w n, fin v w n = some r → w.length = wE ∧ n = nE) : ev_all2 (ev_ok (ev_Pm wE nE) r) 0 (ev_o41 cf fin) :=
  ev_b (
   ev_a (mo_ald) <|
   ev_a (mo_psh) <|
   ev_a (mo_ptf) <|
   ev_a (mo_no) <|
   ev_a (mo_no) <|
   ev_a (mo_ald) <|
   ev_a (mo_inr hcm) <|
   ev_a (mo_no) <|
   ev_a (mo_no) <|
   ev_a (mo_ast) <|
   ev_a (mo_ald) <|
   ev_a (mo_get) <|
   ev_a (mo_no) <|
   ev_a (mo_no) <|
   ev_a (mo_psh) <|
   ev_a (mo_no) <| ev_a0) <|
  ev_b (
   ev_a (mo_cmp) <|
   ev_a (mo_no) <|
   ev_a (mo_no) <|
   ev_a (mo_ald) <|
   ev_a (mo_inr hcm) <|
   ev_a (mo_no) <|
   ev_a (mo_no) <|
   ev_a (mo_psh) <|
   ev_a (mo_no) <|
   ev_a (mo_cmp) <|
   ev_a (mo_no) <|
   ev_a (mo_no) <|
   ev_a (mo_ald) <|
   ev_a (mo_ald) <|
   ev_a (mo_ald) <|
   ev_a (mo_get) <| ev_a0) <|
  ev_b (
   ev_a (mo_no) <|
   ev_a (mo_no) <|
   ev_a (mo_psh) <|
   ev_a (mo_bin) <|
   ev_a (mo_inr hcm) <|
   ev_a (mo_no) <|
   ev_a (mo_no) <|
   ev_a (mo_cm0) <|
   ev_a (mo_no) <|
   ev_a (mo_no) <|
   ev_a (mo_ald) <|
   ev_a (mo_psh) <|
   ev_a (mo_no) <|
   ev_a (mo_no) <|
   ev_a (mo_no) <|
   ev_a (mo_rti hfm) <| ev_a0) <|
  ev_b (
   ev_a (mo_ald) <|
   ev_a (mo_get) <|
   ev_a (mo_no) <|
   ev_a (mo_no) <|
   ev_a (mo_inr hcm) <|
   ev_a (mo_no) <|
   ev_a (mo_no) <|
   ev_a (mo_ald) <|
   ev_a (mo_inr hcm) <|
   ev_a (mo_no) <|
   ev_a (mo_no) <|
   ev_a (mo_ast) <|
   ev_a (mo_ald) <|
   ev_a (mo_inr hcm) <|
   ev_a (mo_no) <|
   ev_a (mo_no) <| ev_a0) <|
  ev_b (
   ev_a (mo_no) <|
   ev_a (mo_no) <|
   ev_a (mo_cm0) <|
   ev_a (mo_no) <|
   ev_a (mo_no) <|
   ev_a (mo_ald) <|
   ev_a (mo_inr hcm) <|
   ev_a (mo_no) <|
   ev_a (mo_no) <|
   ev_a (mo_no) <|
   ev_a (mo_no) <|
   ev_a (mo_cst) <|
   ev_a (mo_no) <|
   ev_a (mo_no) <|
   ev_a (mo_ast) <|
   ev_a (mo_ald) <| ev_a0) <|
  ev_b (
   ev_a (mo_get) <|
   ev_a (mo_no) <|
   ev_a (mo_no) <|
   ev_a (mo_ald) <|
   ev_a (mo_inr hcm) <|
   ev_a (mo_no) <|
   ev_a (mo_no) <|
   ev_a (mo_drop) <|
   ev_a (mo_jmp) <|
   ev_a (mo_no) <|
   ev_a (mo_no) <|
   ev_a (mo_ald) <|
   ev_a (mo_get) <|
   ev_a (mo_no) <|
   ev_a (mo_no) <|
   ev_a (mo_inr hcm) <| ev_a0) <|
  ev_b (
   ev_a (mo_no) <|
   ev_a (mo_no) <|
   ev_a (mo_ald) <|
   ev_a (mo_dup) <|
   ev_a (mo_get) <|
   ev_a (mo_no) <|
   ev_a (mo_no) <|
   ev_a (mo_psh) <|
   ev_a (mo_bin) <|
   ev_a (mo_ptf) <|
   ev_a (mo_no) <|
   ev_a (mo_no) <|
   ev_a (mo_ald) <|
   ev_a (mo_inr hcm) <|
   ev_a (mo_no) <|
   ev_a (mo_no) <| ev_a0) <|
  ev_b (
   ev_a (mo_ald) <|
   ev_a (mo_get) <|
   ev_a (mo_no) <|
   ev_a (mo_no) <|
   ev_a (mo_rti hfm) <| ev_a0) <|
  ev_b0
theorem ev_mo42 {cf : Nat → List Value → ev_W → Option ev_R} {α : Type} {r : α} {fin : Option Value → ev_W → Nat → Option α} {wE nE : Nat} (hcm : ev_cm cf) (hfm : ∀ v w n, fin v w n = some r → w.length = wE ∧ n = nE) : ev_all2 (ev_ok (ev_Pm wE nE) r) 0 (ev_o42 cf fin) :=
  ev_b (
   ev_a (mo_new) <|
   ev_a (mo_no) <|
   ev_a (mo_no) <|
   ev_a (mo_dup) <|
   ev_a (mo_ini hcm) <|
   ev_a (mo_no) <|
   ev_a (mo_no) <|
   ev_a (mo_ast) <|
   ev_a (mo_ald) <|
   ev_a (mo_get) <|
   ev_a (mo_no) <|
   ev_a (mo_no) <|
   ev_a (mo_psh) <|
   ev_a (mo_bin) <|
   ev_a (mo_ist) <|
   ev_a (mo_ald) <| ev_a0) <|
  ev_b (
   ev_a (mo_get) <|
   ev_a (mo_no) <|
   ev_a (mo_no) <|
   ev_a (mo_inr hcm) <|
   ev_a (mo_no) <|
   ev_a (mo_no) <|
   ev_a (mo_ast) <|
   ev_a (mo_ald) <|
   ev_a (mo_inr hcm) <|
   ev_a (mo_no) <|
   ev_a (mo_no) <|
   ev_a (mo_no) <|
   ev_a (mo_no) <|
   ev_a (mo_cm0) <|
   ev_a (mo_no) <|
   ev_a (mo_no) <| ev_a0) <|
  ev_b (
   ev_a (mo_ald) <|
   ev_a (mo_inr hcm) <|
   ev_a (mo_no) <|
   ev_a (mo_no) <|
   ev_a (mo_no) <|
   ev_a (mo_no) <|
   ev_a (mo_cst) <|
   ev_a (mo_no) <|
   ev_a (mo_no) <|
   ev_a (mo_ast) <|
   ev_a (mo_no) <|
   ev_a (mo_new) <|
   ev_a (mo_no) <|
   ev_a (mo_no) <|
   ev_a (mo_dup) <|
   ev_a (mo_ini hcm) <| ev_a0) <|
  ev_b (
   ev_a (mo_no) <|
   ev_a (mo_no) <|
   ev_a (mo_ast) <|
   ev_a (mo_no) <|
   ev_a (mo_ald) <|
   ev_a (mo_no) <|
   ev_a (mo_ald) <|
   ev_a (mo_no) <|
   ev_a (mo_get) <|
   ev_a (mo_no) <|
   ev_a (mo_no) <|
   ev_a (mo_ptf) <|
   ev_a (mo_no) <|
   ev_a (mo_no) <|
   ev_a (mo_ald) <|
   ev_a (mo_no) <| ev_a0) <|
  ev_b (
   ev_a (mo_ald) <|
   ev_a (mo_no) <|
   ev_a (mo_get) <|
   ev_a (mo_no) <|
   ev_a (mo_no) <|
   ev_a (mo_ptf) <|
   ev_a (mo_no) <|
   ev_a (mo_no) <|
   ev_a (mo_ald) <|
   ev_a (mo_no) <|
   ev_a (mo_ald) <|
   ev_a (mo_no) <|
   ev_a (mo_get) <|
   ev_a (mo_no) <|
   ev_a (mo_no) <|
   ev_a (mo_ptf) <| ev_a0) <|
  ev_b (
   ev_a (mo_no) <|
   ev_a (mo_no) <|
   ev_a (mo_ald) <|
   ev_a (mo_no) <|
   ev_a (mo_ald) <|
   ev_a (mo_no) <|
   ev_a (mo_get) <|
   ev_a (mo_no) <|
   ev_a (mo_no) <|
   ev_a (mo_ptf) <|
   ev_a (mo_no) <|
   ev_a (mo_no) <|
   ev_a (mo_ald) <|
   ev_a (mo_ald) <|
   ev_a (mo_no) <|
   ev_a (mo_inr hcm) <| ev_a0) <|
  ev_b (
   ev_a (mo_no) <|
   ev_a (mo_no) <|
   ev_a (mo_drop) <|
   ev_a (mo_jmp) <|
   ev_a (mo_no) <|
   ev_a (mo_no) <|
   ev_a (mo_ald) <|
   ev_a (mo_get) <|
   ev_a (mo_no) <|
   ev_a (mo_no) <|
   ev_a (mo_inr hcm) <|
   ev_a (mo_no) <|
   ev_a (mo_no) <|
   ev_a (mo_ast) <|
   ev_a (mo_ald) <|
   ev_a (mo_inr hcm) <| ev_a0) <|
  ev_b (
   ev_a (mo_no) <|
   ev_a (mo_no) <|
   ev_a (mo_no) <|
   ev_a (mo_no) <|
   ev_a (mo_cm0) <|
   ev_a (mo_no) <|
   ev_a (mo_no) <|
   ev_a (mo_ald) <|
   ev_a (mo_inr hcm) <|
   ev_a (mo_no) <|
   ev_a (mo_no) <|
   ev_a (mo_no) <|
   ev_a (mo_no) <|
   ev_a (mo_cst) <|
   ev_a (mo_no) <|
   ev_a (mo_no) <| ev_a0) <|
  ev_b (
   ev_a (mo_ast) <|
   ev_a (mo_no) <|
   ev_a (mo_psh) <|
   ev_a (mo_ist) <|
   ev_a (mo_no) <|
   ev_a (mo_ald) <|
   ev_a (mo_inr hcm) <|
   ev_a (mo_no) <|
   ev_a (mo_no) <|
   ev_a (mo_ast) <|
   ev_a (mo_no) <|
   ev_a (mo_ald) <|
   ev_a (mo_no) <|
   ev_a (mo_inr hcm) <|
   ev_a (mo_no) <|
   ev_a (mo_no) <| ev_a0) <|
  ev_b (
   ev_a (mo_no) <|
   ev_a (mo_no) <|
   ev_a (mo_cm0) <|
   ev_a (mo_no) <|
   ev_a (mo_no) <|
   ev_a (mo_ald) <|
   ev_a (mo_no) <|
   ev_a (mo_inr hcm) <|
   ev_a (mo_no) <|
   ev_a (mo_no) <|
   ev_a (mo_no) <|
   ev_a (mo_no) <|
   ev_a (mo_cst) <|
   ev_a (mo_no) <|
   ev_a (mo_no) <|
   ev_a (mo_ast) <| ev_a0) <|
  ev_b (
   ev_a (mo_no) <|
   ev_a (mo_ald) <|
   ev_a (mo_no) <|
   ev_a (mo_ild) <|
   ev_a (mo_inr hcm) <|
   ev_a (mo_no) <|
   ev_a (mo_no) <|
   ev_a (mo_cm0) <|
   ev_a (mo_no) <|
   ev_a (mo_no) <|
   ev_a (mo_jmp) <|
   ev_a (mo_no) <|
   ev_a (mo_no) <|
   ev_a (mo_ald) <|
   ev_a (mo_no) <|
   ev_a (mo_psh) <| ev_a0) <|
  ev_b (
   ev_a (mo_ldi) <|
   ev_a (mo_cm0) <|
   ev_a (mo_no) <|
   ev_a (mo_no) <|
   ev_a (mo_ald) <|
   ev_a (mo_ald) <|
   ev_a (mo_no) <|
   ev_a (mo_get) <|
   ev_a (mo_no) <|
   ev_a (mo_no) <|
   ev_a (mo_inr hcm) <|
   ev_a (mo_no) <|
   ev_a (mo_no) <|
   ev_a (mo_ald) <|
   ev_a (mo_ald) <|
   ev_a (mo_no) <| ev_a0) <|
  ev_b (
   ev_a (mo_psh) <|
   ev_a (mo_ldi) <|
   ev_a (mo_inr hcm) <|
   ev_a (mo_no) <|
   ev_a (mo_no) <|
   ev_a (mo_cmp) <|
   ev_a (mo_no) <|
   ev_a (mo_no) <|
   ev_a (mo_ald) <|
   ev_a (mo_no) <|
   ev_a (mo_ild) <|
   ev_a (mo_ptf) <|
   ev_a (mo_no) <|
   ev_a (mo_no) <|
   ev_a (mo_ald) <|
   ev_a (mo_no) <| ev_a0) <|
  ev_b (
   ev_a (mo_psh) <|
   ev_a (mo_ldi) <|
   ev_a (mo_cm0) <|
   ev_a (mo_no) <|
   ev_a (mo_no) <|
   ev_a (mo_ald) <|
   ev_a (mo_no) <|
   ev_a (mo_get) <|
   ev_a (mo_no) <|
   ev_a (mo_no) <|
   ev_a (mo_ald) <|
   ev_a (mo_no) <|
   ev_a (mo_psh) <|
   ev_a (mo_ldi) <|
   ev_a (mo_cmp) <|
   ev_a (mo_no) <| ev_a0) <|
  ev_b (
   ev_a (mo_no) <|
   ev_a (mo_ald) <|
   ev_a (mo_no) <|
   ev_a (mo_ald) <|
   ev_a (mo_no) <|
   ev_a (mo_get) <|
   ev_a (mo_no) <|
   ev_a (mo_no) <|
   ev_a (mo_ald) <|
   ev_a (mo_no) <|
   ev_a (mo_psh) <|
   ev_a (mo_ldi) <|
   ev_a (mo_no) <|
   ev_a (mo_no) <|
   ev_a (mo_no) <|
   ev_a (mo_ptf) <| ev_a0) <|
  ev_b (
   ev_a (mo_no) <|
   ev_a (mo_no) <|
   ev_a (mo_psh) <|
   ev_a (mo_ist) <|
   ev_a (mo_no) <|
   ev_a (mo_jmp) <|
   ev_a (mo_no) <|
   ev_a (mo_no) <|
   ev_a (mo_ald) <|
   ev_a (mo_no) <|
   ev_a (mo_psh) <|
   ev_a (mo_ldi) <|
   ev_a (mo_cm0) <|
   ev_a (mo_no) <|
   ev_a (mo_no) <|
   ev_a (mo_ild) <| ev_a0) <|
  ev_b (
   ev_a (mo_no) <|
   ev_a (mo_cm0) <|
   ev_a (mo_no) <|
   ev_a (mo_no) <|
   ev_a (mo_jmp) <|
   ev_a (mo_no) <|
   ev_a (mo_no) <|
   ev_a (mo_new) <|
   ev_a (mo_no) <|
   ev_a (mo_no) <|
   ev_a (mo_dup) <|
   ev_a (mo_ini hcm) <|
   ev_a (mo_no) <|
   ev_a (mo_no) <|
   ev_a (mo_ast) <|
   ev_a (mo_no) <| ev_a0) <|
  ev_b (
   ev_a (mo_ald) <|
   ev_a (mo_no) <|
   ev_a (mo_ald) <|
   ev_a (mo_no) <|
   ev_a (mo_psh) <|
   ev_a (mo_ldi) <|
   ev_a (mo_ptf) <|
   ev_a (mo_no) <|
   ev_a (mo_no) <|
   ev_a (mo_ald) <|
   ev_a (mo_no) <|
   ev_a (mo_ald) <|
   ev_a (mo_no) <|
   ev_a (mo_psh) <|
   ev_a (mo_ldi) <|
   ev_a (mo_ptf) <| ev_a0) <|
  ev_b (
   ev_a (mo_no) <|
   ev_a (mo_no) <|
   ev_a (mo_ald) <|
   ev_a (mo_no) <|
   ev_a (mo_ild) <|
   ev_a (mo_ptf) <|
   ev_a (mo_no) <|
   ev_a (mo_no) <|
   ev_a (mo_ald) <|
   ev_a (mo_ald) <|
   ev_a (mo_no) <|
   ev_a (mo_inr hcm) <|
   ev_a (mo_no) <|
   ev_a (mo_no) <|
   ev_a (mo_drop) <|
   ev_a (mo_jmp) <| ev_a0) <|
  ev_b (
   ev_a (mo_no) <|
   ev_a (mo_no) <|
   ev_a (mo_ald) <|
   ev_a (mo_rta hfm) <| ev_a0) <|
  ev_b0
theorem ev_mo43 {cf : Nat → List Value → ev_W → Option ev_R} {α : Type} {r : α} {fin : Option Value → ev_W → Nat → Option α} {wE nE : Nat} (hcm : ev_cm cf) (hfm : ∀ v w n, fin v w n = some r → w.length = wE ∧ n = nE) : ev_all2 (ev_ok (ev_Pm wE nE) r) 0 (ev_o43 cf fin) :=
  ev_b (
   ev_a (mo_ild) <|
   ev_a (mo_cm0) <|
   ev_a (mo_no) <|
   ev_a (mo_no) <|
   ev_a (mo_ild) <|
   ev_a (mo_psh) <|
   ev_a (mo_no) <|
   ev_a (mo_div) <|
   ev_a (mo_jmp) <|
   ev_a (mo_no) <|
   ev_a (mo_no) <|
   ev_a (mo_ild) <|
   ev_a (mo_psh) <|
   ev_a (mo_cmp) <|
   ev_a (mo_no) <|
   ev_a (mo_no) <| ev_a0) <|
  ev_b (
   ev_a (mo_ild) <|
   ev_a (mo_psh) <|
   ev_a (mo_no) <|
   ev_a (mo_div) <|
   ev_a (mo_psh) <|
   ev_a (mo_no) <|
   ev_a (mo_div) <|
   ev_a (mo_jmp) <|
   ev_a (mo_no) <|
   ev_a (mo_no) <|
   ev_a (mo_ild) <|
   ev_a (mo_psh) <|
   ev_a (mo_no) <|
   ev_a (mo_div) <|
   ev_a (mo_rti hfm) <| ev_a0) <|
  ev_b0
theorem ev_mo44 {cf : Nat → List Value → ev_W → Option ev_R} {α : Type} {r : α} {fin : Option Value → ev_W → Nat → Option α} {wE nE : Nat} (hcm : ev_cm cf) (hfm : ∀ v w n, fin v w n = some r → w.length = wE ∧ n = nE) : ev_all2 (ev_ok (ev_Pm wE nE) r) 0 (ev_o44 cf fin) :=
  ev_b (
   ev_a (mo_ald) <|
   ev_a (mo_psh) <|
   ev_a (mo_ptf) <|
   ev_a (mo_no) <|
   ev_a (mo_no) <|
   ev_a (mo_ald) <|
   ev_a (mo_psh) <|
   ev_a (mo_ptf) <|
   ev_a (mo_no) <|
   ev_a (mo_no) <|
   ev_a (mo_rtv hfm) <| ev_a0) <|
  ev_b0
theorem ev_mo45 {cf : Nat → List Value → ev_W → Option ev_R} {α : Type} {r : α} {fin : Option Value → ev_W → Nat → Option α} {wE nE : Nat} (hcm : ev_cm cf) (hfm : ∀ v w n, fin v w n = some r → w.length = wE ∧ n = nE) : ev_all2 (ev_ok (ev_Pm wE nE) r) 0 (ev_o45 cf fin) :=
  ev_b (
   ev_a (mo_ald) <|
   ev_a (mo_obj) <|
   ev_a (mo_no) <|
   ev_a (mo_no) <|
   ev_a (mo_ald) <|
   ev_a (mo_psh) <|
   ev_a (mo_no) <|
   ev_a (mo_nwa) <|
   ev_a (mo_no) <|
   ev_a (mo_dup) <|
   ev_a (mo_psh) <|
   ev_a (mo_psh) <|
   ev_a (mo_sti) <|
   ev_a (mo_dup) <|
   ev_a (mo_psh) <|
   ev_a (mo_psh) <| ev_a0) <|
  ev_b (
   ev_a (mo_sti) <|
   ev_a (mo_dup) <|
   ev_a (mo_psh) <|
   ev_a (mo_psh) <|
   ev_a (mo_sti) <|
   ev_a (mo_dup) <|
   ev_a (mo_psh) <|
   ev_a (mo_psh) <|
   ev_a (mo_sti) <|
   ev_a (mo_dup) <|
   ev_a (mo_psh) <|
   ev_a (mo_psh) <|
   ev_a (mo_sti) <|
   ev_a (mo_dup) <|
   ev_a (mo_psh) <|
   ev_a (mo_psh) <| ev_a0) <|
  ev_b (
   ev_a (mo_sti) <|
   ev_a (mo_ptf) <|
   ev_a (mo_no) <|
   ev_a (mo_no) <|
   ev_a (mo_ald) <|
   ev_a (mo_new) <|
   ev_a (mo_no) <|
   ev_a (mo_no) <|
   ev_a (mo_dup) <|
   ev_a (mo_ini hcm) <|
   ev_a (mo_no) <|
   ev_a (mo_no) <|
   ev_a (mo_ptf) <|
   ev_a (mo_no) <|
   ev_a (mo_no) <|
   ev_a (mo_ald) <| ev_a0) <|
  ev_b (
   ev_a (mo_new) <|
   ev_a (mo_no) <|
   ev_a (mo_no) <|
   ev_a (mo_dup) <|
   ev_a (mo_ini hcm) <|
   ev_a (mo_no) <|
   ev_a (mo_no) <|
   ev_a (mo_ptf) <|
   ev_a (mo_no) <|
   ev_a (mo_no) <|
   ev_a (mo_ald) <|
   ev_a (mo_new) <|
   ev_a (mo_no) <|
   ev_a (mo_no) <|
   ev_a (mo_dup) <|
   ev_a (mo_ini hcm) <| ev_a0) <|
  ev_b (
   ev_a (mo_no) <|
   ev_a (mo_no) <|
   ev_a (mo_ptf) <|
   ev_a (mo_no) <|
   ev_a (mo_no) <|
   ev_a (mo_ald) <|
   ev_a (mo_new) <|
   ev_a (mo_no) <|
   ev_a (mo_no) <|
   ev_a (mo_dup) <|
   ev_a (mo_ini hcm) <|
   ev_a (mo_no) <|
   ev_a (mo_no) <|
   ev_a (mo_ptf) <|
   ev_a (mo_no) <|
   ev_a (mo_no) <| ev_a0) <|
  ev_b (
   ev_a (mo_ald) <|
   ev_a (mo_psh) <|
   ev_a (mo_ptf) <|
   ev_a (mo_no) <|
   ev_a (mo_no) <|
   ev_a (mo_rtv hfm) <| ev_a0) <|
  ev_b0
theorem ev_mo46 {cf : Nat → List Value → ev_W → Option ev_R} {α : Type} {r : α} {fin : Option Value → ev_W → Nat → Option α} {wE nE : Nat} (hcm : ev_cm cf) (hfm : ∀ v w n, fin v w n = some r → w.length = wE ∧ n = nE) : ev_all2 (ev_ok (ev_Pm wE nE) r) 0 (ev_o46 cf fin) :=
  ev_b (
   ev_a (mo_ild) <|
   ev_a (mo_ild) <|
   ev_a (mo_cmp) <|
   ev_a (mo_no) <|
   ev_a (mo_no) <|
   ev_a (mo_ild) <|
   ev_a (mo_ild) <|
   ev_a (mo_cmp) <|
   ev_a (mo_no) <|
   ev_a (mo_no) <|
   ev_a (mo_psh) <|
   ev_a (mo_jmp) <|
   ev_a (mo_no) <|
   ev_a (mo_no) <|
   ev_a (mo_psh) <|
   ev_a (mo_rtz hfm) <| ev_a0) <|
  ev_b0
theorem ev_mo47 {cf : Nat → List Value → ev_W → Option ev_R} {α : Type} {r : α} {fin : Option Value → ev_W → Nat → Option α} {wE nE : Nat} (hcm : ev_cm cf) (hfm : ∀ v w n, fin v w n = some r → w.length = wE ∧ n = nE) : ev_all2 (ev_ok (ev_Pm wE nE) r) 0 (ev_o47 cf fin) :=
  ev_b (
   ev_a (mo_ild) <|
   ev_a (mo_psh) <|
   ev_a (mo_psh) <|
   ev_a (mo_no) <|
   ev_a (mo_no) <|
   ev_a (mo_inv hcm) <|
   ev_a (mo_no) <|
   ev_a (mo_no) <|
   ev_a (mo_cm0) <|
   ev_a (mo_no) <|
   ev_a (mo_no) <|
   ev_a (mo_ild) <|
   ev_a (mo_psh) <|
   ev_a (mo_inv hcm) <|
   ev_a (mo_no) <|
   ev_a (mo_no) <| ev_a0) <|
  ev_b (
   ev_a (mo_psh) <|
   ev_a (mo_no) <|
   ev_a (mo_cmp) <|
   ev_a (mo_no) <|
   ev_a (mo_no) <|
   ev_a (mo_ild) <|
   ev_a (mo_psh) <|
   ev_a (mo_inv hcm) <|
   ev_a (mo_no) <|
   ev_a (mo_no) <|
   ev_a (mo_psh) <|
   ev_a (mo_no) <|
   ev_a (mo_cmp) <|
   ev_a (mo_no) <|
   ev_a (mo_no) <|
   ev_a (mo_ild) <| ev_a0) <|
  ev_b (
   ev_a (mo_psh) <|
   ev_a (mo_inv hcm) <|
   ev_a (mo_no) <|
   ev_a (mo_no) <|
   ev_a (mo_psh) <|
   ev_a (mo_no) <|
   ev_a (mo_cmp) <|
   ev_a (mo_no) <|
   ev_a (mo_no) <|
   ev_a (mo_psh) <|
   ev_a (mo_jmp) <|
   ev_a (mo_no) <|
   ev_a (mo_no) <|
   ev_a (mo_psh) <|
   ev_a (mo_rtz hfm) <| ev_a0) <|
  ev_b0
theorem ev_mo48 {cf : Nat → List Value → ev_W → Option ev_R} {α : Type} {r : α} {fin : Option Value → ev_W → Nat → Option α} {wE nE : Nat} (hcm : ev_cm cf) (hfm : ∀ v w n, fin v w n = some r → w.length = wE ∧ n = nE) : ev_all2 (ev_ok (ev_Pm wE nE) r) 0 (ev_o48 cf fin) :=
  ev_b (
   ev_a (mo_psh) <|
   ev_a (mo_nwa) <|
   ev_a (mo_no) <|
   ev_a (mo_dup) <|
   ev_a (mo_psh) <|
   ev_a (mo_psh) <|
   ev_a (mo_no) <|
   ev_a (mo_sti) <|
   ev_a (mo_dup) <|
   ev_a (mo_psh) <|
   ev_a (mo_psh) <|
   ev_a (mo_no) <|
   ev_a (mo_sti) <|
   ev_a (mo_dup) <|
   ev_a (mo_psh) <|
   ev_a (mo_psh) <| ev_a0) <|
  ev_b (
   ev_a (mo_no) <|
   ev_a (mo_sti) <|
   ev_a (mo_dup) <|
   ev_a (mo_psh) <|
   ev_a (mo_psh) <|
   ev_a (mo_no) <|
   ev_a (mo_sti) <|
   ev_a (mo_rta hfm) <| ev_a0) <|
  ev_b0
theorem ev_mo49 {cf : Nat → List Value → ev_W → Option ev_R} {α : Type} {r : α} {fin : Option Value → ev_W → Nat → Option α} {wE nE : Nat} (hcm : ev_cm cf) (hfm : ∀ v w n, fin v w n = some r → w.length = wE ∧ n = nE) : ev_all2 (ev_ok (ev_Pm wE nE) r) 0 (ev_o49 cf fin) :=
  ev_b (
   ev_a (mo_psh) <|
   ev_a (mo_ist) <|
   ev_a (mo_psh) <|
   ev_a (mo_ist) <|
   ev_a (mo_no) <|
   ev_a (mo_ild) <|
   ev_a (mo_no) <|
   ev_a (mo_psh) <|
   ev_a (mo_cmp) <|
   ev_a (mo_no) <|
   ev_a (mo_no) <|
   ev_a (mo_ild) <|
   ev_a (mo_ild) <|
   ev_a (mo_no) <|
   ev_a (mo_inv hcm) <|
   ev_a (mo_no) <| ev_a0) <|
  ev_b (
   ev_a (mo_no) <|
   ev_a (mo_ist) <|
   ev_a (mo_no) <|
   ev_a (mo_psh) <|
   ev_a (mo_no) <|
   ev_a (mo_ild) <|
   ev_a (mo_bin) <|
   ev_a (mo_ild) <|
   ev_a (mo_no) <|
   ev_a (mo_psh) <|
   ev_a (mo_no) <|
   ev_a (mo_cmp) <|
   ev_a (mo_no) <|
   ev_a (mo_no) <|
   ev_a (mo_ald) <|
   ev_a (mo_get) <| ev_a0) <|
  ev_b (
   ev_a (mo_no) <|
   ev_a (mo_no) <|
   ev_a (mo_ild) <|
   ev_a (mo_no) <|
   ev_a (mo_ldi) <|
   ev_a (mo_jmp) <|
   ev_a (mo_no) <|
   ev_a (mo_no) <|
   ev_a (mo_ald) <|
   ev_a (mo_ild) <|
   ev_a (mo_no) <|
   ev_a (mo_psh) <|
   ev_a (mo_no) <|
   ev_a (mo_bin) <|
   ev_a (mo_ldi) <|
   ev_a (mo_bin) <| ev_a0) <|
  ev_b (
   ev_a (mo_ist) <|
   ev_a (mo_inc) <|
   ev_a (mo_no) <|
   ev_a (mo_no) <|
   ev_a (mo_jmp) <|
   ev_a (mo_no) <|
   ev_a (mo_no) <|
   ev_a (mo_ild) <|
   ev_a (mo_rti hfm) <| ev_a0) <|
  ev_b0
theorem ev_mo50 {cf : Nat → List Value → ev_W → Option ev_R} {α : Type} {r : α} {fin : Option Value → ev_W → Nat → Option α} {wE nE : Nat} (hcm : ev_cm cf) (hfm : ∀ v w n, fin v w n = some r → w.length = wE ∧ n = nE) : ev_all2 (ev_ok (ev_Pm wE nE) r) 0 (ev_o50 cf fin) :=
  ev_b (
   ev_a (mo_ald) <|
   ev_a (mo_ild) <|
   ev_a (mo_inv hcm) <|
   ev_a (mo_no) <|
   ev_a (mo_no) <|
   ev_a (mo_inr hcm) <|
   ev_a (mo_no) <|
   ev_a (mo_no) <|
   ev_a (mo_rti hfm) <| ev_a0) <|
  ev_b0
theorem ev_mo51 {cf : Nat → List Value → ev_W → Option ev_R} {α : Type} {r : α} {fin : Option Value → ev_W → Nat → Option α} {wE nE : Nat} (hcm : ev_cm cf) (hfm : ∀ v w n, fin v w n = some r → w.length = wE ∧ n = nE) : ev_all2 (ev_ok (ev_Pm wE nE) r) 0 (ev_o51 cf fin) :=
  ev_b (
   ev_a (mo_ald) <|
   ev_a (mo_psh) <|
   ev_a (mo_ptf) <|
   ev_a (mo_no) <|
   ev_a (mo_no) <|
   ev_a (mo_ild) <|
   ev_a (mo_inv hcm) <|
   ev_a (mo_no) <|
   ev_a (mo_no) <|
   ev_a (mo_cm0) <|
   ev_a (mo_no) <|
   ev_a (mo_no) <|
   ev_a (mo_ild) <|
   ev_a (mo_psh) <|
   ev_a (mo_psh) <|
   ev_a (mo_no) <| ev_a0) <|
  ev_b (
   ev_a (mo_inv hcm) <|
   ev_a (mo_no) <|
   ev_a (mo_no) <|
   ev_a (mo_cm0) <|
   ev_a (mo_no) <|
   ev_a (mo_no) <|
   ev_a (mo_ald) <|
   ev_a (mo_psh) <|
   ev_a (mo_no) <|
   ev_a (mo_no) <|
   ev_a (mo_no) <|
   ev_a (mo_rti hfm) <|
   ev_a (mo_ald) <|
   ev_a (mo_get) <|
   ev_a (mo_no) <|
   ev_a (mo_no) <| ev_a0) <|
  ev_b (
   ev_a (mo_inr hcm) <|
   ev_a (mo_no) <|
   ev_a (mo_no) <|
   ev_a (mo_psh) <|
   ev_a (mo_no) <|
   ev_a (mo_cmp) <|
   ev_a (mo_no) <|
   ev_a (mo_no) <|
   ev_a (mo_ald) <|
   ev_a (mo_psh) <|
   ev_a (mo_no) <|
   ev_a (mo_no) <|
   ev_a (mo_no) <|
   ev_a (mo_rti hfm) <|
   ev_a (mo_ald) <|
   ev_a (mo_get) <| ev_a0) <|
  ev_b (
   ev_a (mo_no) <|
   ev_a (mo_no) <|
   ev_a (mo_psh) <|
   ev_a (mo_nwa) <|
   ev_a (mo_no) <|
   ev_a (mo_dup) <|
   ev_a (mo_psh) <|
   ev_a (mo_ild) <|
   ev_a (mo_sti) <|
   ev_a (mo_dup) <|
   ev_a (mo_psh) <|
   ev_a (mo_ild) <|
   ev_a (mo_sti) <|
   ev_a (mo_inr hcm) <|
   ev_a (mo_no) <|
   ev_a (mo_no) <| ev_a0) <|
  ev_b (
   ev_a (mo_drop) <|
   ev_a (mo_ald) <|
   ev_a (mo_get) <|
   ev_a (mo_no) <|
   ev_a (mo_no) <|
   ev_a (mo_inr hcm) <|
   ev_a (mo_no) <|
   ev_a (mo_no) <|
   ev_a (mo_rti hfm) <| ev_a0) <|
  ev_b0
theorem ev_mo52 {cf : Nat → List Value → ev_W → Option ev_R} {α : Type} {r : α} {fin : Option Value → ev_W → Nat → Option α} {wE nE : Nat} (hcm : ev_cm cf) (hfm : ∀ v w n, fin v w n = some r → w.length = wE ∧ n = nE) : ev_all2 (ev_ok (ev_Pm wE nE) r) 0 (ev_o52 cf fin) :=
  ev_b (
   ev_a (mo_ald) <|
   ev_a (mo_get) <|
   ev_a (mo_no) <|
   ev_a (mo_no) <|
   ev_a (mo_rti hfm) <| ev_a0) <|
  ev_b0
theorem ev_mo53 {cf : Nat → List Value → ev_W → Option ev_R} {α : Type} {r : α} {fin : Option Value → ev_W → Nat → Option α} {wE nE : Nat} (hcm : ev_cm cf) (hfm : ∀ v w n, fin v w n = some r → w.length = wE ∧ n = nE) : ev_all2 (ev_ok (ev_Pm wE nE) r) 0 (ev_o53 cf fin) :=
  ev_b (
   ev_a (mo_psh) <|
   ev_a (mo_no) <|
   ev_a (mo_no) <|
   ev_a (mo_nwa) <|
   ev_a (mo_no) <|
   ev_a (mo_ast) <|
   ev_a (mo_no) <|
   ev_a (mo_ald) <|
   ev_a (mo_inr hcm) <|
   ev_a (mo_no) <|
   ev_a (mo_no) <|
   ev_a (mo_ast) <|
   ev_a (mo_no) <|
   ev_a (mo_ald) <|
   ev_a (mo_no) <|
   ev_a (mo_inr hcm) <| ev_a0) <|
  ev_b (
   ev_a (mo_no) <|
   ev_a (mo_no) <|
   ev_a (mo_no) <|
   ev_a (mo_no) <|
   ev_a (mo_cm0) <|
   ev_a (mo_no) <|
   ev_a (mo_no) <|
   ev_a (mo_ald) <|
   ev_a (mo_no) <|
   ev_a (mo_inr hcm) <|
   ev_a (mo_no) <|
   ev_a (mo_no) <|
   ev_a (mo_no) <|
   ev_a (mo_no) <|
   ev_a (mo_cst) <|
   ev_a (mo_no) <| ev_a0) <|
  ev_b (
   ev_a (mo_no) <|
   ev_a (mo_ast) <|
   ev_a (mo_no) <|
   ev_a (mo_ald) <|
   ev_a (mo_no) <|
   ev_a (mo_ild) <|
   ev_a (mo_inr hcm) <|
   ev_a (mo_no) <|
   ev_a (mo_no) <|
   ev_a (mo_cm0) <|
   ev_a (mo_no) <|
   ev_a (mo_no) <|
   ev_a (mo_ald) <|
   ev_a (mo_no) <|
   ev_a (mo_get) <|
   ev_a (mo_no) <| ev_a0) <|
  ev_b (
   ev_a (mo_no) <|
   ev_a (mo_ild) <|
   ev_a (mo_cmp) <|
   ev_a (mo_no) <|
   ev_a (mo_no) <|
   ev_a (mo_ald) <|
   ev_a (mo_no) <|
   ev_a (mo_ald) <|
   ev_a (mo_ald) <|
   ev_a (mo_no) <|
   ev_a (mo_get) <|
   ev_a (mo_no) <|
   ev_a (mo_no) <|
   ev_a (mo_inr hcm) <|
   ev_a (mo_no) <|
   ev_a (mo_no) <| ev_a0) <|
  ev_b (
   ev_a (mo_psh) <|
   ev_a (mo_sti) <|
   ev_a (mo_jmp) <|
   ev_a (mo_no) <|
   ev_a (mo_no) <|
   ev_a (mo_ald) <|
   ev_a (mo_no) <|
   ev_a (mo_rta hfm) <| ev_a0) <|
  ev_b0
theorem ev_mo54 {cf : Nat → List Value → ev_W → Option ev_R} {α : Type} {r : α} {fin : Option Value → ev_W → Nat → Option α} {wE nE : Nat} (hcm : ev_cm cf) (hfm : ∀ v w n, fin v w n = some r → w.length = wE ∧ n = nE) : ev_all2 (ev_ok (ev_Pm wE nE) r) 0 (ev_o54 cf fin) :=
  ev_b (
   ev_a (mo_ald) <|
   ev_a (mo_psh) <|
   ev_a (mo_ptf) <|
   ev_a (mo_no) <|
   ev_a (mo_no) <|
   ev_a (mo_ild) <|
   ev_a (mo_inv hcm) <|
   ev_a (mo_no) <|
   ev_a (mo_no) <|
   ev_a (mo_cm0) <|
   ev_a (mo_no) <|
   ev_a (mo_no) <|
   ev_a (mo_ald) <|
   ev_a (mo_psh) <|
   ev_a (mo_no) <|
   ev_a (mo_no) <| ev_a0) <|
  ev_b (
   ev_a (mo_no) <|
   ev_a (mo_rti hfm) <|
   ev_a (mo_ald) <|
   ev_a (mo_get) <|
   ev_a (mo_no) <|
   ev_a (mo_no) <|
   ev_a (mo_inr hcm) <|
   ev_a (mo_no) <|
   ev_a (mo_no) <|
   ev_a (mo_psh) <|
   ev_a (mo_no) <|
   ev_a (mo_cmp) <|
   ev_a (mo_no) <|
   ev_a (mo_no) <|
   ev_a (mo_ald) <|
   ev_a (mo_psh) <| ev_a0) <|
  ev_b (
   ev_a (mo_no) <|
   ev_a (mo_no) <|
   ev_a (mo_no) <|
   ev_a (mo_rti hfm) <|
   ev_a (mo_ald) <|
   ev_a (mo_get) <|
   ev_a (mo_no) <|
   ev_a (mo_no) <|
   ev_a (mo_psh) <|
   ev_a (mo_nwa) <|
   ev_a (mo_no) <|
   ev_a (mo_dup) <|
   ev_a (mo_psh) <|
   ev_a (mo_ild) <|
   ev_a (mo_sti) <|
   ev_a (mo_dup) <| ev_a0) <|
  ev_b (
   ev_a (mo_psh) <|
   ev_a (mo_psh) <|
   ev_a (mo_sti) <|
   ev_a (mo_inr hcm) <|
   ev_a (mo_no) <|
   ev_a (mo_no) <|
   ev_a (mo_drop) <|
   ev_a (mo_ald) <|
   ev_a (mo_get) <|
   ev_a (mo_no) <|
   ev_a (mo_no) <|
   ev_a (mo_inr hcm) <|
   ev_a (mo_no) <|
   ev_a (mo_no) <|
   ev_a (mo_rti hfm) <| ev_a0) <|
  ev_b0
theorem ev_mo55 {cf : Nat → List Value → ev_W → Option ev_R} {α : Type} {r : α} {fin : Option Value → ev_W → Nat → Option α} {wE nE : Nat} (hcm : ev_cm cf) (hfm : ∀ v w n, fin v w n = some r → w.length = wE ∧ n = nE) : ev_all2 (ev_ok (ev_Pm wE nE) r) 0 (ev_o55 cf fin) :=
  ev_b (
   ev_a (mo_ald) <|
   ev_a (mo_obj) <|
   ev_a (mo_no) <|
   ev_a (mo_no) <|
   ev_a (mo_ald) <|
   ev_a (mo_psh) <|
   ev_a (mo_no) <|
   ev_a (mo_nwa) <|
   ev_a (mo_no) <|
   ev_a (mo_ptf) <|
   ev_a (mo_no) <|
   ev_a (mo_no) <|
   ev_a (mo_rtv hfm) <| ev_a0) <|
  ev_b0
theorem ev_mo56 {cf : Nat → List Value → ev_W → Option ev_R} {α : Type} {r : α} {fin : Option Value → ev_W → Nat → Option α} {wE nE : Nat} (hcm : ev_cm cf) (hfm : ∀ v w n, fin v w n = some r → w.length = wE ∧ n = nE) : ev_all2 (ev_ok (ev_Pm wE nE) r) 0 (ev_o56 cf fin) :=
  ev_b (
   ev_a (mo_ald) <|
   ev_a (mo_obj) <|
   ev_a (mo_no) <|
   ev_a (mo_no) <|
   ev_a (mo_ald) <|
   ev_a (mo_psh) <|
   ev_a (mo_no) <|
   ev_a (mo_no) <|
   ev_a (mo_nwa) <|
   ev_a (mo_no) <|
   ev_a (mo_ptf) <|
   ev_a (mo_no) <|
   ev_a (mo_no) <|
   ev_a (mo_rtv hfm) <| ev_a0) <|
  ev_b0
theorem ev_mo57 {cf : Nat → List Value → ev_W → Option ev_R} {α : Type} {r : α} {fin : Option Value → ev_W → Nat → Option α} {wE nE : Nat} (hcm : ev_cm cf) (hfm : ∀ v w n, fin v w n = some r → w.length = wE ∧ n = nE) : ev_all2 (ev_ok (ev_Pm wE nE) r) 0 (ev_o57 cf fin) :=
  ev_b (
   ev_a (mo_ald) <|
   ev_a (mo_obj) <|
   ev_a (mo_no) <|
   ev_a (mo_no) <|
   ev_a (mo_ald) <|
   ev_a (mo_psh) <|
   ev_a (mo_no) <|
   ev_a (mo_no) <|
   ev_a (mo_nwa) <|
   ev_a (mo_no) <|
   ev_a (mo_ptf) <|
   ev_a (mo_no) <|
   ev_a (mo_no) <|
   ev_a (mo_ald) <|
   ev_a (mo_psh) <|
   ev_a (mo_no) <| ev_a0) <|
  ev_b (
   ev_a (mo_no) <|
   ev_a (mo_nwa) <|
   ev_a (mo_no) <|
   ev_a (mo_ptf) <|
   ev_a (mo_no) <|
   ev_a (mo_no) <|
   ev_a (mo_ald) <|
   ev_a (mo_psh) <|
   ev_a (mo_no) <|
   ev_a (mo_no) <|
   ev_a (mo_nwa) <|
   ev_a (mo_no) <|
   ev_a (mo_ptf) <|
   ev_a (mo_no) <|
   ev_a (mo_no) <|
   ev_a (mo_ald) <| ev_a0) <|
  ev_b (
   ev_a (mo_psh) <|
   ev_a (mo_no) <|
   ev_a (mo_no) <|
   ev_a (mo_nwa) <|
   ev_a (mo_no) <|
   ev_a (mo_ptf) <|
   ev_a (mo_no) <|
   ev_a (mo_no) <|
   ev_a (mo_ald) <|
   ev_a (mo_new) <|
   ev_a (mo_no) <|
   ev_a (mo_no) <|
   ev_a (mo_dup) <|
   ev_a (mo_ini hcm) <|
   ev_a (mo_no) <|
   ev_a (mo_no) <| ev_a0) <|
  ev_b (
   ev_a (mo_ptf) <|
   ev_a (mo_no) <|
   ev_a (mo_no) <|
   ev_a (mo_rtv hfm) <| ev_a0) <|
  ev_b0
theorem ev_mo58 {cf : Nat → List Value → ev_W → Option ev_R} {α : Type} {r : α} {fin : Option Value → ev_W → Nat → Option α} {wE nE : Nat} (hcm : ev_cm cf) (hfm : ∀ v w n, fin v w n = some r → w.length = wE ∧ n = nE) : ev_all2 (ev_ok (ev_Pm wE nE) r) 0 (ev_o58 cf fin) :=
  ev_b (
   ev_a (mo_ald) <|
   ev_a (mo_get) <|
   ev_a (mo_no) <|
   ev_a (mo_no) <|
   ev_a (mo_ild) <|
   ev_a (mo_psh) <|
   ev_a (mo_inv hcm) <|
   ev_a (mo_no) <|
   ev_a (mo_no) <|
   ev_a (mo_rti hfm) <| ev_a0) <|
  ev_b0
theorem ev_mo59 {cf : Nat → List Value → ev_W → Option ev_R} {α : Type} {r : α} {fin : Option Value → ev_W → Nat → Option α} {wE nE : Nat} (hcm : ev_cm cf) (hfm : ∀ v w n, fin v w n = some r → w.length = wE ∧ n = nE) : ev_all2 (ev_ok (ev_Pm wE nE) r) 0 (ev_o59 cf fin) :=
  ev_b (
   ev_a (mo_ald) <|
   ev_a (mo_ild) <|
   ev_a (mo_psh) <|
   ev_a (mo_no) <|
   ev_a (mo_div) <|
   ev_a (mo_inr hcm) <|
   ev_a (mo_no) <|
   ev_a (mo_no) <|
   ev_a (mo_psh) <|
   ev_a (mo_no) <|
   ev_a (mo_bin) <|
   ev_a (mo_ald) <|
   ev_a (mo_ild) <|
   ev_a (mo_psh) <|
   ev_a (mo_no) <|
   ev_a (mo_div) <| ev_a0) <|
  ev_b (
   ev_a (mo_psh) <|
   ev_a (mo_no) <|
   ev_a (mo_div) <|
   ev_a (mo_inr hcm) <|
   ev_a (mo_no) <|
   ev_a (mo_no) <|
   ev_a (mo_psh) <|
   ev_a (mo_no) <|
   ev_a (mo_bin) <|
   ev_a (mo_bin) <|
   ev_a (mo_ald) <|
   ev_a (mo_ild) <|
   ev_a (mo_psh) <|
   ev_a (mo_no) <|
   ev_a (mo_div) <|
   ev_a (mo_inr hcm) <| ev_a0) <|
  ev_b (
   ev_a (mo_no) <|
   ev_a (mo_no) <|
   ev_a (mo_bin) <|
   ev_a (mo_rti hfm) <| ev_a0) <|
  ev_b0
theorem ev_mo60 {cf : Nat → List Value → ev_W → Option ev_R} {α : Type} {r : α} {fin : Option Value → ev_W → Nat → Option α} {wE nE : Nat} (hcm : ev_cm cf) (hfm : ∀ v w n, fin v w n = some r → w.length = wE ∧ n = nE) : ev_all2 (ev_ok (ev_Pm wE nE) r) 0 (ev_o60 cf fin) :=
  ev_b (
   ev_a (mo_ald) <|
   ev_a (mo_obj) <|
   ev_a (mo_no) <|
   ev_a (mo_no) <|
   ev_a (mo_ald) <|
   ev_a (mo_psh) <|
   ev_a (mo_no) <|
   ev_a (mo_nwa) <|
   ev_a (mo_no) <|
   ev_a (mo_ptf) <|
   ev_a (mo_no) <|
   ev_a (mo_no) <|
   ev_a (mo_ald) <|
   ev_a (mo_inr hcm) <|
   ev_a (mo_no) <|
   ev_a (mo_no) <| ev_a0) <|
  ev_b (
   ev_a (mo_rtv hfm) <| ev_a0) <|
  ev_b0
theorem ev_mo61 {cf : Nat → List Value → ev_W → Option ev_R} {α : Type} {r : α} {fin : Option Value → ev_W → Nat → Option α} {wE nE : Nat} (hcm : ev_cm cf) (hfm : ∀ v w n, fin v w n = some r → w.length = wE ∧ n = nE) : ev_all2 (ev_ok (ev_Pm wE nE) r) 0 (ev_o61 cf fin) :=
  ev_b (
   ev_a (mo_psh) <|
   ev_a (mo_ist) <|
   ev_a (mo_ild) <|
   ev_a (mo_ald) <|
   ev_a (mo_get) <|
   ev_a (mo_no) <|
   ev_a (mo_no) <|
   ev_a (mo_aln) <|
   ev_a (mo_cmp) <|
   ev_a (mo_no) <|
   ev_a (mo_no) <|
   ev_a (mo_ald) <|
   ev_a (mo_get) <|
   ev_a (mo_no) <|
   ev_a (mo_no) <|
   ev_a (mo_ild) <| ev_a0) <|
  ev_b (
   ev_a (mo_ild) <|
   ev_a (mo_sti) <|
   ev_a (mo_inc) <|
   ev_a (mo_no) <|
   ev_a (mo_no) <|
   ev_a (mo_jmp) <|
   ev_a (mo_no) <|
   ev_a (mo_no) <|
   ev_a (mo_rtv hfm) <| ev_a0) <|
  ev_b0
theorem ev_mo62 {cf : Nat → List Value → ev_W → Option ev_R} {α : Type} {r : α} {fin : Option Value → ev_W → Nat → Option α} {wE nE : Nat} (hcm : ev_cm cf) (hfm : ∀ v w n, fin v w n = some r → w.length = wE ∧ n = nE) : ev_all2 (ev_ok (ev_Pm wE nE) r) 0 (ev_o62 cf fin) :=
  ev_b (
   ev_a (mo_ald) <|
   ev_a (mo_obj) <|
   ev_a (mo_no) <|
   ev_a (mo_no) <|
   ev_a (mo_ald) <|
   ev_a (mo_psh) <|
   ev_a (mo_no) <|
   ev_a (mo_no) <|
   ev_a (mo_nwa) <|
   ev_a (mo_no) <|
   ev_a (mo_ptf) <|
   ev_a (mo_no) <|
   ev_a (mo_no) <|
   ev_a (mo_ald) <|
   ev_a (mo_psh) <|
   ev_a (mo_no) <| ev_a0) <|
  ev_b (
   ev_a (mo_no) <|
   ev_a (mo_nwa) <|
   ev_a (mo_no) <|
   ev_a (mo_ptf) <|
   ev_a (mo_no) <|
   ev_a (mo_no) <|
   ev_a (mo_ald) <|
   ev_a (mo_psh) <|
   ev_a (mo_no) <|
   ev_a (mo_no) <|
   ev_a (mo_nwa) <|
   ev_a (mo_no) <|
   ev_a (mo_ptf) <|
   ev_a (mo_no) <|
   ev_a (mo_no) <|
   ev_a (mo_rtv hfm) <| ev_a0) <|
  ev_b0
theorem ev_mo63 {cf : Nat → List Value → ev_W → Option ev_R} {α : Type} {r : α} {fin : Option Value → ev_W → Nat → Option α} {wE nE : Nat} (hcm : ev_cm cf) (hfm : ∀ v w n, fin v w n = some r → w.length = wE ∧ n = nE) : ev_all2 (ev_ok (ev_Pm wE nE) r) 0 (ev_o63 cf fin) :=
  ev_b (
   ev_a (mo_ald) <|
   ev_a (mo_obj) <|
   ev_a (mo_no) <|
   ev_a (mo_no) <|
   ev_a (mo_ald) <|
   ev_a (mo_psh) <|
   ev_a (mo_nwa) <|
   ev_a (mo_no) <|
   ev_a (mo_ptf) <|
   ev_a (mo_no) <|
   ev_a (mo_no) <|
   ev_a (mo_ald) <|
   ev_a (mo_psh) <|
   ev_a (mo_nwa) <|
   ev_a (mo_no) <|
   ev_a (mo_ptf) <| ev_a0) <|
  ev_b (
   ev_a (mo_no) <|
   ev_a (mo_no) <|
   ev_a (mo_ald) <|
   ev_a (mo_psh) <|
   ev_a (mo_no) <|
   ev_a (mo_no) <|
   ev_a (mo_nwa) <|
   ev_a (mo_no) <|
   ev_a (mo_ptf) <|
   ev_a (mo_no) <|
   ev_a (mo_no) <|
   ev_a (mo_ald) <|
   ev_a (mo_new) <|
   ev_a (mo_no) <|
   ev_a (mo_no) <|
   ev_a (mo_dup) <| ev_a0) <|
  ev_b (
   ev_a (mo_ini hcm) <|
   ev_a (mo_no) <|
   ev_a (mo_no) <|
   ev_a (mo_ptf) <|
   ev_a (mo_no) <|
   ev_a (mo_no) <|
   ev_a (mo_ald) <|
   ev_a (mo_new) <|
   ev_a (mo_no) <|
   ev_a (mo_no) <|
   ev_a (mo_dup) <|
   ev_a (mo_ini hcm) <|
   ev_a (mo_no) <|
   ev_a (mo_no) <|
   ev_a (mo_ptf) <|
   ev_a (mo_no) <| ev_a0) <|
  ev_b (
   ev_a (mo_no) <|
   ev_a (mo_ald) <|
   ev_a (mo_psh) <|
   ev_a (mo_ptf) <|
   ev_a (mo_no) <|
   ev_a (mo_no) <|
   ev_a (mo_rtv hfm) <| ev_a0) <|
  ev_b0
theorem ev_mo64 {cf : Nat → List Value → ev_W → Option ev_R} {α : Type} {r : α} {fin : Option Value → ev_W → Nat → Option α} {wE nE : Nat} (hcm : ev_cm cf) (hfm : ∀ v w n, fin v w n = some r → w.length = wE ∧ n = nE) : ev_all2 (ev_ok (ev_Pm wE nE) r) 0 (ev_o64 cf fin) :=
  ev_b (
   ev_a (mo_ald) <|
   ev_a (mo_ild) <|
   ev_a (mo_inr hcm) <|
   ev_a (mo_no) <|
   ev_a (mo_no) <|
   ev_a (mo_ist) <|
   ev_a (mo_no) <|
   ev_a (mo_ild) <|
   ev_a (mo_no) <|
   ev_a (mo_psh) <|
   ev_a (mo_cmp) <|
   ev_a (mo_no) <|
   ev_a (mo_no) <|
   ev_a (mo_ald) <|
   ev_a (mo_get) <|
   ev_a (mo_no) <| ev_a0) <|
  ev_b (
   ev_a (mo_no) <|
   ev_a (mo_ild) <|
   ev_a (mo_no) <|
   ev_a (mo_ild) <|
   ev_a (mo_ald) <|
   ev_a (mo_get) <|
   ev_a (mo_no) <|
   ev_a (mo_no) <|
   ev_a (mo_ild) <|
   ev_a (mo_no) <|
   ev_a (mo_psh) <|
   ev_a (mo_inv hcm) <|
   ev_a (mo_no) <|
   ev_a (mo_no) <|
   ev_a (mo_no) <|
   ev_a (mo_no) <| ev_a0) <|
  ev_b (
   ev_a (mo_no) <|
   ev_a (mo_inv hcm) <|
   ev_a (mo_no) <|
   ev_a (mo_no) <|
   ev_a (mo_rtv hfm) <|
   ev_a (mo_ald) <|
   ev_a (mo_get) <|
   ev_a (mo_no) <|
   ev_a (mo_no) <|
   ev_a (mo_ald) <|
   ev_a (mo_get) <|
   ev_a (mo_no) <|
   ev_a (mo_no) <|
   ev_a (mo_ild) <|
   ev_a (mo_inv hcm) <|
   ev_a (mo_no) <| ev_a0) <|
  ev_b (
   ev_a (mo_no) <|
   ev_a (mo_ald) <|
   ev_a (mo_get) <|
   ev_a (mo_no) <|
   ev_a (mo_no) <|
   ev_a (mo_ald) <|
   ev_a (mo_get) <|
   ev_a (mo_no) <|
   ev_a (mo_no) <|
   ev_a (mo_ild) <|
   ev_a (mo_inv hcm) <|
   ev_a (mo_no) <|
   ev_a (mo_no) <|
   ev_a (mo_ald) <|
   ev_a (mo_get) <|
   ev_a (mo_no) <| ev_a0) <|
  ev_b (
   ev_a (mo_no) <|
   ev_a (mo_ald) <|
   ev_a (mo_get) <|
   ev_a (mo_no) <|
   ev_a (mo_no) <|
   ev_a (mo_ild) <|
   ev_a (mo_inv hcm) <|
   ev_a (mo_no) <|
   ev_a (mo_no) <|
   ev_a (mo_ald) <|
   ev_a (mo_get) <|
   ev_a (mo_no) <|
   ev_a (mo_no) <|
   ev_a (mo_ald) <|
   ev_a (mo_get) <|
   ev_a (mo_no) <| ev_a0) <|
  ev_b (
   ev_a (mo_no) <|
   ev_a (mo_ild) <|
   ev_a (mo_no) <|
   ev_a (mo_inv hcm) <|
   ev_a (mo_no) <|
   ev_a (mo_no) <|
   ev_a (mo_ald) <|
   ev_a (mo_get) <|
   ev_a (mo_no) <|
   ev_a (mo_no) <|
   ev_a (mo_ald) <|
   ev_a (mo_get) <|
   ev_a (mo_no) <|
   ev_a (mo_no) <|
   ev_a (mo_psh) <|
   ev_a (mo_inv hcm) <| ev_a0) <|
  ev_b (
   ev_a (mo_no) <|
   ev_a (mo_no) <|
   ev_a (mo_ald) <|
   ev_a (mo_dup) <|
   ev_a (mo_get) <|
   ev_a (mo_no) <|
   ev_a (mo_no) <|
   ev_a (mo_psh) <|
   ev_a (mo_bin) <|
   ev_a (mo_ptf) <|
   ev_a (mo_no) <|
   ev_a (mo_no) <|
   ev_a (mo_rtv hfm) <| ev_a0) <|
  ev_b0
theorem ev_mo65 {cf : Nat → List Value → ev_W → Option ev_R} {α : Type} {r : α} {fin : Option Value → ev_W → Nat → Option α} {wE nE : Nat} (hcm : ev_cm cf) (hfm : ∀ v w n, fin v w n = some r → w.length = wE ∧ n = nE) : ev_all2 (ev_ok (ev_Pm wE nE) r) 0 (ev_o65 cf fin) :=
  ev_b (
   ev_a (mo_ald) <|
   ev_a (mo_ald) <|
   ev_a (mo_get) <|
   ev_a (mo_no) <|
   ev_a (mo_no) <|
   ev_a (mo_ptf) <|
   ev_a (mo_no) <|
   ev_a (mo_no) <|
   ev_a (mo_ald) <|
   ev_a (mo_get) <|
   ev_a (mo_no) <|
   ev_a (mo_no) <|
   ev_a (mo_ald) <|
   ev_a (mo_get) <|
   ev_a (mo_no) <|
   ev_a (mo_no) <| ev_a0) <|
  ev_b (
   ev_a (mo_ald) <|
   ev_a (mo_get) <|
   ev_a (mo_no) <|
   ev_a (mo_no) <|
   ev_a (mo_inv hcm) <|
   ev_a (mo_no) <|
   ev_a (mo_no) <|
   ev_a (mo_ald) <|
   ev_a (mo_get) <|
   ev_a (mo_no) <|
   ev_a (mo_no) <|
   ev_a (mo_ald) <|
   ev_a (mo_get) <|
   ev_a (mo_no) <|
   ev_a (mo_no) <|
   ev_a (mo_ald) <| ev_a0) <|
  ev_b (
   ev_a (mo_get) <|
   ev_a (mo_no) <|
   ev_a (mo_no) <|
   ev_a (mo_inv hcm) <|
   ev_a (mo_no) <|
   ev_a (mo_no) <|
   ev_a (mo_ald) <|
   ev_a (mo_get) <|
   ev_a (mo_no) <|
   ev_a (mo_no) <|
   ev_a (mo_ald) <|
   ev_a (mo_get) <|
   ev_a (mo_no) <|
   ev_a (mo_no) <|
   ev_a (mo_ald) <|
   ev_a (mo_get) <| ev_a0) <|
  ev_b (
   ev_a (mo_no) <|
   ev_a (mo_no) <|
   ev_a (mo_inv hcm) <|
   ev_a (mo_no) <|
   ev_a (mo_no) <|
   ev_a (mo_ald) <|
   ev_a (mo_get) <|
   ev_a (mo_no) <|
   ev_a (mo_no) <|
   ev_a (mo_ald) <|
   ev_a (mo_get) <|
   ev_a (mo_no) <|
   ev_a (mo_no) <|
   ev_a (mo_ald) <|
   ev_a (mo_get) <|
   ev_a (mo_no) <| ev_a0) <|
  ev_b (
   ev_a (mo_no) <|
   ev_a (mo_inv hcm) <|
   ev_a (mo_no) <|
   ev_a (mo_no) <|
   ev_a (mo_ald) <|
   ev_a (mo_get) <|
   ev_a (mo_no) <|
   ev_a (mo_no) <|
   ev_a (mo_ald) <|
   ev_a (mo_get) <|
   ev_a (mo_no) <|
   ev_a (mo_no) <|
   ev_a (mo_ald) <|
   ev_a (mo_get) <|
   ev_a (mo_no) <|
   ev_a (mo_no) <| ev_a0) <|
  ev_b (
   ev_a (mo_inv hcm) <|
   ev_a (mo_no) <|
   ev_a (mo_no) <|
   ev_a (mo_rtv hfm) <| ev_a0) <|
  ev_b0
theorem ev_mo66 {cf : Nat → List Value → ev_W → Option ev_R} {α : Type} {r : α} {fin : Option Value → ev_W → Nat → Option α} {wE nE : Nat} (hcm : ev_cm cf) (hfm : ∀ v w n, fin v w n = some r → w.length = wE ∧ n = nE) : ev_all2 (ev_ok (ev_Pm wE nE) r) 0 (ev_o66 cf fin) :=
  ev_b (
   ev_a (mo_psh) <|
   ev_a (mo_ist) <|
   ev_a (mo_ild) <|
   ev_a (mo_ald) <|
   ev_a (mo_get) <|
   ev_a (mo_no) <|
   ev_a (mo_no) <|
   ev_a (mo_cmp) <|
   ev_a (mo_no) <|
   ev_a (mo_no) <|
   ev_a (mo_ald) <|
   ev_a (mo_ild) <|
   ev_a (mo_inr hcm) <|
   ev_a (mo_no) <|
   ev_a (mo_no) <|
   ev_a (mo_cm0) <| ev_a0) <|
  ev_b (
   ev_a (mo_no) <|
   ev_a (mo_no) <|
   ev_a (mo_ald) <|
   ev_a (mo_get) <|
   ev_a (mo_no) <|
   ev_a (mo_no) <|
   ev_a (mo_ild) <|
   ev_a (mo_psh) <|
   ev_a (mo_inv hcm) <|
   ev_a (mo_no) <|
   ev_a (mo_no) <|
   ev_a (mo_ild) <|
   ev_a (mo_cmp) <|
   ev_a (mo_no) <|
   ev_a (mo_no) <|
   ev_a (mo_ald) <| ev_a0) <|
  ev_b (
   ev_a (mo_get) <|
   ev_a (mo_no) <|
   ev_a (mo_no) <|
   ev_a (mo_ild) <|
   ev_a (mo_ild) <|
   ev_a (mo_inv hcm) <|
   ev_a (mo_no) <|
   ev_a (mo_no) <|
   ev_a (mo_inc) <|
   ev_a (mo_no) <|
   ev_a (mo_no) <|
   ev_a (mo_jmp) <|
   ev_a (mo_no) <|
   ev_a (mo_no) <|
   ev_a (mo_rtv hfm) <| ev_a0) <|
  ev_b0
theorem ev_mo67 {cf : Nat → List Value → ev_W → Option ev_R} {α : Type} {r : α} {fin : Option Value → ev_W → Nat → Option α} {wE nE : Nat} (hcm : ev_cm cf) (hfm : ∀ v w n, fin v w n = some r → w.length = wE ∧ n = nE) : ev_all2 (ev_ok (ev_Pm wE nE) r) 0 (ev_o67 cf fin) :=
  ev_b (
   ev_a (mo_ald) <|
   ev_a (mo_get) <|
   ev_a (mo_no) <|
   ev_a (mo_no) <|
   ev_a (mo_ild) <|
   ev_a (mo_psh) <|
   ev_a (mo_inv hcm) <|
   ev_a (mo_no) <|
   ev_a (mo_no) <|
   ev_a (mo_ild) <|
   ev_a (mo_cmp) <|
   ev_a (mo_no) <|
   ev_a (mo_no) <|
   ev_a (mo_ald) <|
   ev_a (mo_ild) <|
   ev_a (mo_inr hcm) <| ev_a0) <|
  ev_b (
   ev_a (mo_no) <|
   ev_a (mo_no) <|
   ev_a (mo_cm0) <|
   ev_a (mo_no) <|
   ev_a (mo_no) <|
   ev_a (mo_ild) <|
   ev_a (mo_ald) <|
   ev_a (mo_get) <|
   ev_a (mo_no) <|
   ev_a (mo_no) <|
   ev_a (mo_ild) <|
   ev_a (mo_psh) <|
   ev_a (mo_inv hcm) <|
   ev_a (mo_no) <|
   ev_a (mo_no) <|
   ev_a (mo_cmp) <| ev_a0) <|
  ev_b (
   ev_a (mo_no) <|
   ev_a (mo_no) <|
   ev_a (mo_psh) <|
   ev_a (mo_jmp) <|
   ev_a (mo_no) <|
   ev_a (mo_no) <|
   ev_a (mo_psh) <|
   ev_a (mo_rtz hfm) <| ev_a0) <|
  ev_b0
theorem ev_mo68 {cf : Nat → List Value → ev_W → Option ev_R} {α : Type} {r : α} {fin : Option Value → ev_W → Nat → Option α} {wE nE : Nat} (hcm : ev_cm cf) (hfm : ∀ v w n, fin v w n = some r → w.length = wE ∧ n = nE) : ev_all2 (ev_ok (ev_Pm wE nE) r) 0 (ev_o68 cf fin) :=
  ev_b (
   ev_a (mo_ald) <|
   ev_a (mo_obj) <|
   ev_a (mo_no) <|
   ev_a (mo_no) <|
   ev_a (mo_ald) <|
   ev_a (mo_psh) <|
   ev_a (mo_no) <|
   ev_a (mo_nwa) <|
   ev_a (mo_no) <|
   ev_a (mo_ptf) <|
   ev_a (mo_no) <|
   ev_a (mo_no) <|
   ev_a (mo_ald) <|
   ev_a (mo_psh) <|
   ev_a (mo_no) <|
   ev_a (mo_nwa) <| ev_a0) <|
  ev_b (
   ev_a (mo_no) <|
   ev_a (mo_ptf) <|
   ev_a (mo_no) <|
   ev_a (mo_no) <|
   ev_a (mo_ald) <|
   ev_a (mo_psh) <|
   ev_a (mo_no) <|
   ev_a (mo_nwa) <|
   ev_a (mo_no) <|
   ev_a (mo_ptf) <|
   ev_a (mo_no) <|
   ev_a (mo_no) <|
   ev_a (mo_ald) <|
   ev_a (mo_psh) <|
   ev_a (mo_no) <|
   ev_a (mo_nwa) <| ev_a0) <|
  ev_b (
   ev_a (mo_no) <|
   ev_a (mo_ptf) <|
   ev_a (mo_no) <|
   ev_a (mo_no) <|
   ev_a (mo_ald) <|
   ev_a (mo_psh) <|
   ev_a (mo_no) <|
   ev_a (mo_nwa) <|
   ev_a (mo_no) <|
   ev_a (mo_ptf) <|
   ev_a (mo_no) <|
   ev_a (mo_no) <|
   ev_a (mo_rtv hfm) <| ev_a0) <|
  ev_b0
theorem ev_mo69 {cf : Nat → List Value → ev_W → Option ev_R} {α : Type} {r : α} {fin : Option Value → ev_W → Nat → Option α} {wE nE : Nat} (hcm : ev_cm cf) (hfm : ∀ v w n, fin v w n = some r → w.length = wE ∧ n = nE) : ev_all2 (ev_ok (ev_Pm wE nE) r) 0 (ev_o69 cf fin) :=
  ev_b (
   ev_a (mo_ald) <|
   ev_a (mo_get) <|
   ev_a (mo_no) <|
   ev_a (mo_no) <|
   ev_a (mo_ild) <|
   ev_a (mo_psh) <|
   ev_a (mo_inv hcm) <|
   ev_a (mo_no) <|
   ev_a (mo_no) <|
   ev_a (mo_psh) <|
   ev_a (mo_cmp) <|
   ev_a (mo_no) <|
   ev_a (mo_no) <|
   ev_a (mo_psh) <|
   ev_a (mo_jmp) <|
   ev_a (mo_no) <| ev_a0) <|
  ev_b (
   ev_a (mo_no) <|
   ev_a (mo_psh) <|
   ev_a (mo_rtz hfm) <| ev_a0) <|
  ev_b0
theorem ev_mo70 {cf : Nat → List Value → ev_W → Option ev_R} {α : Type} {r : α} {fin : Option Value → ev_W → Nat → Option α} {wE nE : Nat} (hcm : ev_cm cf) (hfm : ∀ v w n, fin v w n = some r → w.length = wE ∧ n = nE) : ev_all2 (ev_ok (ev_Pm wE nE) r) 0 (ev_o70 cf fin) :=
  ev_b (
   ev_a (mo_psh) <|
   ev_a (mo_ist) <|
   ev_a (mo_ild) <|
   ev_a (mo_ald) <|
   ev_a (mo_get) <|
   ev_a (mo_no) <|
   ev_a (mo_no) <|
   ev_a (mo_cmp) <|
   ev_a (mo_no) <|
   ev_a (mo_no) <|
   ev_a (mo_ald) <|
   ev_a (mo_ild) <|
   ev_a (mo_inr hcm) <|
   ev_a (mo_no) <|
   ev_a (mo_no) <|
   ev_a (mo_cm0) <| ev_a0) <|
  ev_b (
   ev_a (mo_no) <|
   ev_a (mo_no) <|
   ev_a (mo_ald) <|
   ev_a (mo_get) <|
   ev_a (mo_no) <|
   ev_a (mo_no) <|
   ev_a (mo_ild) <|
   ev_a (mo_psh) <|
   ev_a (mo_inv hcm) <|
   ev_a (mo_no) <|
   ev_a (mo_no) <|
   ev_a (mo_ild) <|
   ev_a (mo_cmp) <|
   ev_a (mo_no) <|
   ev_a (mo_no) <|
   ev_a (mo_ild) <| ev_a0) <|
  ev_b (
   ev_a (mo_rti hfm) <|
   ev_a (mo_inc) <|
   ev_a (mo_no) <|
   ev_a (mo_no) <|
   ev_a (mo_jmp) <|
   ev_a (mo_no) <|
   ev_a (mo_no) <|
   ev_a (mo_psh) <|
   ev_a (mo_rti hfm) <| ev_a0) <|
  ev_b0
theorem ev_mo71 {cf : Nat → List Value → ev_W → Option ev_R} {α : Type} {r : α} {fin : Option Value → ev_W → Nat → Option α} {wE nE : Nat} (hcm : ev_cm cf) (hfm : ∀ v w n, fin v w n = some r → w.length = wE ∧ n = nE) : ev_all2 (ev_ok (ev_Pm wE nE) r) 0 (ev_o71 cf fin) :=
  ev_b (
   ev_a (mo_psh) <|
   ev_a (mo_ist) <|
   ev_a (mo_no) <|
   ev_a (mo_ild) <|
   ev_a (mo_no) <|
   ev_a (mo_ald) <|
   ev_a (mo_get) <|
   ev_a (mo_no) <|
   ev_a (mo_no) <|
   ev_a (mo_cmp) <|
   ev_a (mo_no) <|
   ev_a (mo_no) <|
   ev_a (mo_ald) <|
   ev_a (mo_get) <|
   ev_a (mo_no) <|
   ev_a (mo_no) <| ev_a0) <|
  ev_b (
   ev_a (mo_ild) <|
   ev_a (mo_no) <|
   ev_a (mo_psh) <|
   ev_a (mo_inv hcm) <|
   ev_a (mo_no) <|
   ev_a (mo_no) <|
   ev_a (mo_ist) <|
   ev_a (mo_no) <|
   ev_a (mo_ald) <|
   ev_a (mo_get) <|
   ev_a (mo_no) <|
   ev_a (mo_no) <|
   ev_a (mo_ild) <|
   ev_a (mo_no) <|
   ev_a (mo_psh) <|
   ev_a (mo_inv hcm) <| ev_a0) <|
  ev_b (
   ev_a (mo_no) <|
   ev_a (mo_no) <|
   ev_a (mo_ist) <|
   ev_a (mo_no) <|
   ev_a (mo_ild) <|
   ev_a (mo_no) <|
   ev_a (mo_cm0) <|
   ev_a (mo_no) <|
   ev_a (mo_no) <|
   ev_a (mo_ald) <|
   ev_a (mo_ald) <|
   ev_a (mo_ild) <|
   ev_a (mo_no) <|
   ev_a (mo_inr hcm) <|
   ev_a (mo_no) <|
   ev_a (mo_no) <| ev_a0) <|
  ev_b (
   ev_a (mo_ild) <|
   ev_a (mo_inr hcm) <|
   ev_a (mo_no) <|
   ev_a (mo_no) <|
   ev_a (mo_jmp) <|
   ev_a (mo_no) <|
   ev_a (mo_no) <|
   ev_a (mo_ald) <|
   ev_a (mo_ild) <|
   ev_a (mo_no) <|
   ev_a (mo_ald) <|
   ev_a (mo_ild) <|
   ev_a (mo_no) <|
   ev_a (mo_inr hcm) <|
   ev_a (mo_no) <|
   ev_a (mo_no) <| ev_a0) <|
  ev_b (
   ev_a (mo_ild) <|
   ev_a (mo_no) <|
   ev_a (mo_ild) <|
   ev_a (mo_inr hcm) <|
   ev_a (mo_no) <|
   ev_a (mo_no) <|
   ev_a (mo_inc) <|
   ev_a (mo_no) <|
   ev_a (mo_no) <|
   ev_a (mo_jmp) <|
   ev_a (mo_no) <|
   ev_a (mo_no) <|
   ev_a (mo_rtv hfm) <| ev_a0) <|
  ev_b0
theorem ev_mo72 {cf : Nat → List Value → ev_W → Option ev_R} {α : Type} {r : α} {fin : Option Value → ev_W → Nat → Option α} {wE nE : Nat} (hcm : ev_cm cf) (hfm : ∀ v w n, fin v w n = some r → w.length = wE ∧ n = nE) : ev_all2 (ev_ok (ev_Pm wE nE) r) 0 (ev_o72 cf fin) :=
  ev_b (
   ev_a (mo_ald) <|
   ev_a (mo_obj) <|
   ev_a (mo_no) <|
   ev_a (mo_no) <|
   ev_a (mo_ald) <|
   ev_a (mo_psh) <|
   ev_a (mo_nwa) <|
   ev_a (mo_no) <|
   ev_a (mo_ptf) <|
   ev_a (mo_no) <|
   ev_a (mo_no) <|
   ev_a (mo_ald) <|
   ev_a (mo_psh) <|
   ev_a (mo_nwa) <|
   ev_a (mo_no) <|
   ev_a (mo_ptf) <| ev_a0) <|
  ev_b (
   ev_a (mo_no) <|
   ev_a (mo_no) <|
   ev_a (mo_ald) <|
   ev_a (mo_psh) <|
   ev_a (mo_nwa) <|
   ev_a (mo_no) <|
   ev_a (mo_ptf) <|
   ev_a (mo_no) <|
   ev_a (mo_no) <|
   ev_a (mo_rtv hfm) <| ev_a0) <|
  ev_b0
theorem ev_mo73 {cf : Nat → List Value → ev_W → Option ev_R} {α : Type} {r : α} {fin : Option Value → ev_W → Nat → Option α} {wE nE : Nat} (hcm : ev_cm cf) (hfm : ∀ v w n, fin v w n = some r → w.length = wE ∧ n = nE) : ev_all2 (ev_ok (ev_Pm wE nE) r) 0 (ev_o73 cf fin) :=
  ev_b (
   ev_a (mo_psh) <|
   ev_a (mo_ist) <|
   ev_a (mo_psh) <|
   ev_a (mo_ist) <|
   ev_a (mo_ild) <|
   ev_a (mo_psh) <|
   ev_a (mo_no) <|
   ev_a (mo_cmp) <|
   ev_a (mo_no) <|
   ev_a (mo_no) <|
   ev_a (mo_ald) <|
   ev_a (mo_ild) <|
   ev_a (mo_ald) <|
   ev_a (mo_inr hcm) <|
   ev_a (mo_no) <|
   ev_a (mo_no) <| ev_a0) <|
  ev_b (
   ev_a (mo_cm0) <|
   ev_a (mo_no) <|
   ev_a (mo_no) <|
   ev_a (mo_inc) <|
   ev_a (mo_no) <|
   ev_a (mo_no) <|
   ev_a (mo_inc) <|
   ev_a (mo_no) <|
   ev_a (mo_no) <|
   ev_a (mo_jmp) <|
   ev_a (mo_no) <|
   ev_a (mo_no) <|
   ev_a (mo_ild) <|
   ev_a (mo_rti hfm) <| ev_a0) <|
  ev_b0
theorem ev_mo74 {cf : Nat → List Value → ev_W → Option ev_R} {α : Type} {r : α} {fin : Option Value → ev_W → Nat → Option α} {wE nE : Nat} (hcm : ev_cm cf) (hfm : ∀ v w n, fin v w n = some r → w.length = wE ∧ n = nE) : ev_all2 (ev_ok (ev_Pm wE nE) r) 0 (ev_o74 cf fin) :=
  ev_b (
   ev_a (mo_ald) <|
   ev_a (mo_get) <|
   ev_a (mo_no) <|
   ev_a (mo_no) <|
   ev_a (mo_psh) <|
   ev_a (mo_inv hcm) <|
   ev_a (mo_no) <|
   ev_a (mo_no) <|
   ev_a (mo_psh) <|
   ev_a (mo_ist) <|
   ev_a (mo_ild) <|
   ev_a (mo_ald) <|
   ev_a (mo_get) <|
   ev_a (mo_no) <|
   ev_a (mo_no) <|
   ev_a (mo_cmp) <| ev_a0) <|
  ev_b (
   ev_a (mo_no) <|
   ev_a (mo_no) <|
   ev_a (mo_ald) <|
   ev_a (mo_ild) <|
   ev_a (mo_ild) <|
   ev_a (mo_inr hcm) <|
   ev_a (mo_no) <|
   ev_a (mo_no) <|
   ev_a (mo_cm0) <|
   ev_a (mo_no) <|
   ev_a (mo_no) <|
   ev_a (mo_ald) <|
   ev_a (mo_get) <|
   ev_a (mo_no) <|
   ev_a (mo_no) <|
   ev_a (mo_ild) <| ev_a0) <|
  ev_b (
   ev_a (mo_psh) <|
   ev_a (mo_inv hcm) <|
   ev_a (mo_no) <|
   ev_a (mo_no) <|
   ev_a (mo_ist) <|
   ev_a (mo_no) <|
   ev_a (mo_ild) <|
   ev_a (mo_no) <|
   ev_a (mo_psh) <|
   ev_a (mo_no) <|
   ev_a (mo_div) <|
   ev_a (mo_ist) <|
   ev_a (mo_no) <|
   ev_a (mo_ald) <|
   ev_a (mo_get) <|
   ev_a (mo_no) <| ev_a0) <|
  ev_b (
   ev_a (mo_no) <|
   ev_a (mo_ild) <|
   ev_a (mo_no) <|
   ev_a (mo_ald) <|
   ev_a (mo_get) <|
   ev_a (mo_no) <|
   ev_a (mo_no) <|
   ev_a (mo_ild) <|
   ev_a (mo_no) <|
   ev_a (mo_psh) <|
   ev_a (mo_inv hcm) <|
   ev_a (mo_no) <|
   ev_a (mo_no) <|
   ev_a (mo_psh) <|
   ev_a (mo_ild) <|
   ev_a (mo_no) <| ev_a0) <|
  ev_b (
   ev_a (mo_psh) <|
   ev_a (mo_no) <|
   ev_a (mo_div) <|
   ev_a (mo_bin) <|
   ev_a (mo_bin) <|
   ev_a (mo_inv hcm) <|
   ev_a (mo_no) <|
   ev_a (mo_no) <|
   ev_a (mo_inc) <|
   ev_a (mo_no) <|
   ev_a (mo_no) <|
   ev_a (mo_jmp) <|
   ev_a (mo_no) <|
   ev_a (mo_no) <|
   ev_a (mo_rtv hfm) <| ev_a0) <|
  ev_b0
theorem ev_mo75 {cf : Nat → List Value → ev_W → Option ev_R} {α : Type} {r : α} {fin : Option Value → ev_W → Nat → Option α} {wE nE : Nat} (hcm : ev_cm cf) (hfm : ∀ v w n, fin v w n = some r → w.length = wE ∧ n = nE) : ev_all2 (ev_ok (ev_Pm wE nE) r) 0 (ev_o75 cf fin) :=
  ev_b (
   ev_a (mo_ald) <|
   ev_a (mo_obj) <|
   ev_a (mo_no) <|
   ev_a (mo_no) <|
   ev_a (mo_ald) <|
   ev_a (mo_psh) <|
   ev_a (mo_no) <|
   ev_a (mo_nwa) <|
   ev_a (mo_no) <|
   ev_a (mo_ptf) <|
   ev_a (mo_no) <|
   ev_a (mo_no) <|
   ev_a (mo_rtv hfm) <| ev_a0) <|
  ev_b0
theorem ev_mo76 {cf : Nat → List Value → ev_W → Option ev_R} {α : Type} {r : α} {fin : Option Value → ev_W → Nat → Option α} {wE nE : Nat} (hcm : ev_cm cf) (hfm : ∀ v w n, fin v w n = some r → w.length = wE ∧ n = nE) : ev_all2 (ev_ok (ev_Pm wE nE) r) 0 (ev_o76 cf fin) :=
  ev_b (
   ev_a (mo_psh) <|
   ev_a (mo_ist) <|
   ev_a (mo_ild) <|
   ev_a (mo_psh) <|
   ev_a (mo_no) <|
   ev_a (mo_cmp) <|
   ev_a (mo_no) <|
   ev_a (mo_no) <|
   ev_a (mo_ild) <|
   ev_a (mo_psh) <|
   ev_a (mo_no) <|
   ev_a (mo_bin) <|
   ev_a (mo_ald) <|
   ev_a (mo_ild) <|
   ev_a (mo_inr hcm) <|
   ev_a (mo_no) <| ev_a0) <|
  ev_b (
   ev_a (mo_no) <|
   ev_a (mo_bin) <|
   ev_a (mo_ist) <|
   ev_a (mo_no) <|
   ev_a (mo_ald) <|
   ev_a (mo_get) <|
   ev_a (mo_no) <|
   ev_a (mo_no) <|
   ev_a (mo_ild) <|
   ev_a (mo_inv hcm) <|
   ev_a (mo_no) <|
   ev_a (mo_no) <|
   ev_a (mo_cm0) <|
   ev_a (mo_no) <|
   ev_a (mo_no) <|
   ev_a (mo_ald) <| ev_a0) <|
  ev_b (
   ev_a (mo_get) <|
   ev_a (mo_no) <|
   ev_a (mo_no) <|
   ev_a (mo_ild) <|
   ev_a (mo_no) <|
   ev_a (mo_psh) <|
   ev_a (mo_inv hcm) <|
   ev_a (mo_no) <|
   ev_a (mo_no) <|
   ev_a (mo_no) <|
   ev_a (mo_no) <|
   ev_a (mo_no) <|
   ev_a (mo_psh) <|
   ev_a (mo_cmp) <|
   ev_a (mo_no) <|
   ev_a (mo_no) <| ev_a0) <|
  ev_b (
   ev_a (mo_psh) <|
   ev_a (mo_rtz hfm) <|
   ev_a (mo_inc) <|
   ev_a (mo_no) <|
   ev_a (mo_no) <|
   ev_a (mo_jmp) <|
   ev_a (mo_no) <|
   ev_a (mo_no) <|
   ev_a (mo_psh) <|
   ev_a (mo_rtz hfm) <| ev_a0) <|
  ev_b0
theorem ev_rowsall {l : Launch} {d : Nat} {cf : Nat → List Value → ev_W → Option ev_R} (hcf : ev_cf l ev_ys d cf) (hcm : ev_cm cf) : ev_rows l d ev_ys (ev_tabs cf) :=
  ev_r ev_row_none <|
  ev_r (ev_row_code (by decide +kernel) (fun r wE nE hfm => ev_mo1 hcm hfm) (fun p e R s m args below meth c Q D G ad A z wE nE P r X hP hR hd2 hnm Qc hQ hfin => ev_s1 X hP hR hd2 (Nat.le_trans (Nat.le_add_left 1 d) hd2.1) (by omega) hcf hQ hfin) (by decide) (by decide)) <|
  ev_r (ev_row_code (by decide +kernel) (fun r wE nE hfm => ev_mo2 hcm hfm) (fun p e R s m args below meth c Q D G ad A z wE nE P r X hP hR hd2 hnm Qc hQ hfin => ev_s2 X hP hR hd2 (Nat.le_trans (Nat.le_add_left 1 d) hd2.1) (by omega) hcf hQ hfin) (by decide) (by decide)) <|
  ev_r (ev_row_code (by decide +kernel) (fun r wE nE hfm => ev_mo3 hcm hfm) (fun p e R s m args below meth c Q D G ad A z wE nE P r X hP hR hd2 hnm Qc hQ hfin => ev_s3 X hP hR hd2 (Nat.le_trans (Nat.le_add_left 1 d) hd2.1) (by omega) hcf hnm hQ hfin) (by decide) (by decide)) <|
  ev_r (ev_row_code (by decide +kernel) (fun r wE nE hfm => ev_mo4 hcm hfm) (fun p e R s m args below meth c Q D G ad A z wE nE P r X hP hR hd2 hnm Qc hQ hfin => ev_s4 X hP hR hd2 (Nat.le_trans (Nat.le_add_left 1 d) hd2.1) (by omega) hcf hQ hfin) (by decide) (by decide)) <|
  ev_r (ev_row_code (by decide +kernel) (fun r wE nE hfm => ev_mo5 hcm hfm) (fun p e R s m args below meth c Q D G ad A z wE nE P r X hP hR hd2 hnm Qc hQ hfin => ev_s5 X hP hR hd2 (Nat.le_trans (Nat.le_add_left 1 d) hd2.1) (by omega) hcf hQ hfin) (by decide) (by decide)) <|
  ev_r (ev_row_code (by decide +kernel) (fun r wE nE hfm => ev_mo6 hcm hfm) (fun p e R s m args below meth c Q D G ad A z wE nE P r X hP hR hd2 hnm Qc hQ hfin => ev_s6 X hP hR hd2 (Nat.le_trans (Nat.le_add_left 1 d) hd2.1) (by omega) hcf hQ hfin) (by decide) (by decide)) <|
  ev_r (ev_row_code (by decide +kernel) (fun r wE nE hfm => ev_mo7 hcm hfm) (fun p e R s m args below meth c Q D G ad A z wE nE P r X hP hR hd2 hnm Qc hQ hfin => ev_s7 X hP hR hd2 (Nat.le_trans (Nat.le_add_left 1 d) hd2.1) (by omega) hcf hQ hfin) (by decide) (by decide)) <|
  ev_r (ev_row_code (by decide +kernel) (fun r wE nE hfm => ev_mo8 hcm hfm) (fun p e R s m args below meth c Q D G ad A z wE nE P r X hP hR hd2 hnm Qc hQ hfin => ev_s8 X hP hR hd2 (Nat.le_trans (Nat.le_add_left 1 d) hd2.1) (by omega) hcf hQ hfin) (by decide) (by decide)) <|
  ev_r (ev_row_code (by decide +kernel) (fun r wE nE hfm => ev_mo9 hcm hfm) (fun p e R s m args below meth c Q D G ad A z wE nE P r X hP hR hd2 hnm Qc hQ hfin => ev_s9 X hP hR hd2 (Nat.le_trans (Nat.le_add_left 1 d) hd2.1) (by omega) hcf hQ hfin) (by decide) (by decide)) <|
  ev_r (ev_row_code (by decide +kernel) (fun r wE nE hfm => ev_mo10 hcm hfm) (fun p e R s m args below meth c Q D G ad A z wE nE P r X hP hR hd2 hnm Qc hQ hfin => ev_s10 X hP hR hd2 (Nat.le_trans (Nat.le_add_left 1 d) hd2.1) (by omega) hcf hQ hfin) (by decide) (by decide)) <|
  ev_r (ev_row_code (by decide +kernel) (fun r wE nE hfm => ev_mo11 hcm hfm) (fun p e R s m args below meth c Q D G ad A z wE nE P r X hP hR hd2 hnm Qc hQ hfin => ev_s11 X hP hR hd2 (Nat.le_trans (Nat.le_add_left 1 d) hd2.1) (by omega) hcf hQ hfin) (by decide) (by decide)) <|
  ev_r (ev_row_code (by decide +kernel) (fun r wE nE hfm => ev_mo12 hcm hfm) (fun p e R s m args below meth c Q D G ad A z wE nE P r X hP hR hd2 hnm Qc hQ hfin => ev_s12 X hP hR hd2 (Nat.le_trans (Nat.le_add_left 1 d) hd2.1) (by omega) hcf hQ hfin) (by decide) (by decide)) <|
  ev_r (ev_row_code (by decide +kernel) (fun r wE nE hfm => ev_mo13 hcm hfm) (fun p e R s m args below meth c Q D G ad A z wE nE P r X hP hR hd2 hnm Qc hQ hfin => ev_s13 X hP hR hd2 (Nat.le_trans (Nat.le_add_left 1 d) hd2.1) (by omega) hcf hQ hfin) (by decide) (by decide)) <|
  ev_r (ev_row_code (by decide +kernel) (fun r wE nE hfm => ev_mo14 hcm hfm) (fun p e R s m args below meth c Q D G ad A z wE nE P r X hP hR hd2 hnm Qc hQ hfin => ev_s14 X hP hR hd2 (Nat.le_trans (Nat.le_add_left 1 d) hd2.1) (by omega) hcf hQ hfin) (by decide) (by decide)) <|
  ev_r (ev_row_codeW (by decide +kernel) (fun r wE nE hfm => ev_mo15 hcm hfm) (fun p e R s m args below meth c Q D G ad A z wE nE P r X hP hR hd2 hnm Qc hQ hfin => ev_s15 X hP hR hd2 (Nat.le_trans (Nat.le_add_left 1 d) hd2.1) (by omega) hcf hQ hfin) (by decide) (by decide)) <|
  ev_r ev_row_none <|
  ev_r (ev_row_codeW (by decide +kernel) (fun r wE nE hfm => ev_mo17 hcm hfm) (fun p e R s m args below meth c Q D G ad A z wE nE P r X hP hR hd2 hnm Qc hQ hfin => ev_s17 X hP hR hd2 (Nat.le_trans (Nat.le_add_left 1 d) hd2.1) (by omega) hcf hQ hfin) (by decide) (by decide)) <|
  ev_r (ev_row_codeW (by decide +kernel) (fun r wE nE hfm => ev_mo18 hcm hfm) (fun p e R s m args below meth c Q D G ad A z wE nE P r X hP hR hd2 hnm Qc hQ hfin => ev_s18 X hP hR hd2 (Nat.le_trans (Nat.le_add_left 1 d) hd2.1) (by omega) hcf hQ hfin) (by decide) (by decide)) <|
  ev_r (ev_row_code (by decide +kernel) (fun r wE nE hfm => ev_mo19 hcm hfm) (fun p e R s m args below meth c Q D G ad A z wE nE P r X hP hR hd2 hnm Qc hQ hfin => ev_s19 X hP hR hd2 (Nat.le_trans (Nat.le_add_left 1 d) hd2.1) (by omega) hcf hQ hfin) (by decide) (by decide)) <|
  ev_r (ev_row_code (by decide +kernel) (fun r wE nE hfm => ev_mo20 hcm hfm) (fun p e R s m args below meth c Q D G ad A z wE nE P r X hP hR hd2 hnm Qc hQ hfin => ev_s20 X hP hR hd2 (Nat.le_trans (Nat.le_add_left 1 d) hd2.1) (by omega) hcf hQ hfin) (by decide) (by decide)) <|
  ev_r (ev_row_code (by decide +kernel) (fun r wE nE hfm => ev_mo21 hcm hfm) (fun p e R s m args below meth c Q D G ad A z wE nE P r X hP hR hd2 hnm Qc hQ hfin => ev_s21 X hP hR hd2 (Nat.le_trans (Nat.le_add_left 1 d) hd2.1) (by omega) hcf hnm hQ hfin) (by decide) (by decide)) <|
  ev_r (ev_row_code (by decide +kernel) (fun r wE nE hfm => ev_mo22 hcm hfm) (fun p e R s m args below meth c Q D G ad A z wE nE P r X hP hR hd2 hnm Qc hQ hfin => ev_s22 X hP hR hd2 (Nat.le_trans (Nat.le_add_left 1 d) hd2.1) (by omega) hcf hQ hfin) (by decide) (by decide)) <|
  ev_r (ev_row_code (by decide +kernel) (fun r wE nE hfm => ev_mo23 hcm hfm) (fun p e R s m args below meth c Q D G ad A z wE nE P r X hP hR hd2 hnm Qc hQ hfin => ev_s23 X hP hR hd2 (Nat.le_trans (Nat.le_add_left 1 d) hd2.1) (by omega) hcf hQ hfin) (by decide) (by decide)) <|
  ev_r (ev_row_code (by decide +kernel) (fun r wE nE hfm => ev_mo24 hcm hfm) (fun p e R s m args below meth c Q D G ad A z wE nE P r X hP hR hd2 hnm Qc hQ hfin => ev_s24 X hP hR hd2 (Nat.le_trans (Nat.le_add_left 1 d) hd2.1) (by omega) hcf hQ hfin) (by decide) (by decide)) <|
  ev_r (ev_row_code (by decide +kernel) (fun r wE nE hfm => ev_mo25 hcm hfm) (fun p e R s m args below meth c Q D G ad A z wE nE P r X hP hR hd2 hnm Qc hQ hfin => ev_s25 X hP hR hd2 (Nat.le_trans (Nat.le_add_left 1 d) hd2.1) (by omega) hcf hQ hfin) (by decide) (by decide)) <|
  ev_r (ev_row_code (by decide +kernel) (fun r wE nE hfm => ev_mo26 hcm hfm) (fun p e R s m args below meth c Q D G ad A z wE nE P r X hP hR hd2 hnm Qc hQ hfin => ev_s26 X hP hR hd2 (Nat.le_trans (Nat.le_add_left 1 d) hd2.1) (by omega) hcf hQ hfin) (by decide) (by decide)) <|
  ev_r (ev_row_code (by decide +kernel) (fun r wE nE hfm => ev_mo27 hcm hfm) (fun p e R s m args below meth c Q D G ad A z wE nE P r X hP hR hd2 hnm Qc hQ hfin => ev_s27 X hP hR hd2 (Nat.le_trans (Nat.le_add_left 1 d) hd2.1) (by omega) hcf hQ hfin) (by decide) (by decide)) <|
  ev_r (ev_row_code (by decide +kernel) (fun r wE nE hfm => ev_mo28 hcm hfm) (fun p e R s m args below meth c Q D G ad A z wE nE P r X hP hR hd2 hnm Qc hQ hfin => ev_s28 X hP hR hd2 (Nat.le_trans (Nat.le_add_left 1 d) hd2.1) (by omega) hcf hQ hfin) (by decide) (by decide)) <|
  ev_r (ev_row_code (by decide +kernel) (fun r wE nE hfm => ev_mo29 hcm hfm) (fun p e R s m args below meth c Q D G ad A z wE nE P r X hP hR hd2 hnm Qc hQ hfin => ev_s29 X hP hR hd2 (Nat.le_trans (Nat.le_add_left 1 d) hd2.1) (by omega) hcf hnm hQ hfin) (by decide) (by decide)) <|
  ev_r (ev_row_code (by decide +kernel) (fun r wE nE hfm => ev_mo30 hcm hfm) (fun p e R s m args below meth c Q D G ad A z wE nE P r X hP hR hd2 hnm Qc hQ hfin => ev_s30 X hP hR hd2 (Nat.le_trans (Nat.le_add_left 1 d) hd2.1) (by omega) hcf hQ hfin) (by decide) (by decide)) <|
  ev_r (ev_row_code (by decide +kernel) (fun r wE nE hfm => ev_mo31 hcm hfm) (fun p e R s m args below meth c Q D G ad A z wE nE P r X hP hR hd2 hnm Qc hQ hfin => ev_s31 X hP hR hd2 (Nat.le_trans (Nat.le_add_left 1 d) hd2.1) (by omega) hcf hQ hfin) (by decide) (by decide)) <|
  ev_r (ev_row_code (by decide +kernel) (fun r wE nE hfm => ev_mo32 hcm hfm) (fun p e R s m args below meth c Q D G ad A z wE nE P r X hP hR hd2 hnm Qc hQ hfin => ev_s32 X hP hR hd2 (Nat.le_trans (Nat.le_add_left 1 d) hd2.1) (by omega) hcf hQ hfin) (by decide) (by decide)) <|
  ev_r (ev_row_code (by decide +kernel) (fun r wE nE hfm => ev_mo33 hcm hfm) (fun p e R s m args below meth c Q D G ad A z wE nE P r X hP hR hd2 hnm Qc hQ hfin => ev_s33 X hP hR hd2 (Nat.le_trans (Nat.le_add_left 1 d) hd2.1) (by omega) hcf hQ hfin) (by decide) (by decide)) <|
  ev_r (ev_row_code (by decide +kernel) (fun r wE nE hfm => ev_mo34 hcm hfm) (fun p e R s m args below meth c Q D G ad A z wE nE P r X hP hR hd2 hnm Qc hQ hfin => ev_s34 X hP hR hd2 (Nat.le_trans (Nat.le_add_left 1 d) hd2.1) (by omega) hcf hQ hfin) (by decide) (by decide)) <|
  ev_r (ev_row_code (by decide +kernel) (fun r wE nE hfm => ev_mo35 hcm hfm) (fun p e R s m args below meth c Q D G ad A z wE nE P r X hP hR hd2 hnm Qc hQ hfin => ev_s35 X hP hR hd2 (Nat.le_trans (Nat.le_add_left 1 d) hd2.1) (by omega) hcf hQ hfin) (by decide) (by decide)) <|
  ev_r (ev_row_code (by decide +kernel) (fun r wE nE hfm => ev_mo36 hcm hfm) (fun p e R s m args below meth c Q D G ad A z wE nE P r X hP hR hd2 hnm Qc hQ hfin => ev_s36 X hP hR hd2 (Nat.le_trans (Nat.le_add_left 1 d) hd2.1) (by omega) hcf hQ hfin) (by decide) (by decide)) <|
  ev_r (ev_row_code (by decide +kernel) (fun r wE nE hfm => ev_mo37 hcm hfm) (fun p e R s m args below meth c Q D G ad A z wE nE P r X hP hR hd2 hnm Qc hQ hfin => ev_s37 X hP hR hd2 (Nat.le_trans (Nat.le_add_left 1 d) hd2.1) (by omega) hcf hQ hfin) (by decide) (by decide)) <|
  ev_r (ev_row_code (by decide +kernel) (fun r wE nE hfm => ev_mo38 hcm hfm) (fun p e R s m args below meth c Q D G ad A z wE nE P r X hP hR hd2 hnm Qc hQ hfin => ev_s38 X hP hR hd2 (Nat.le_trans (Nat.le_add_left 1 d) hd2.1) (by omega) hcf hQ hfin) (by decide) (by decide)) <|
  ev_r (ev_row_code (by decide +kernel) (fun r wE nE hfm => ev_mo39 hcm hfm) (fun p e R s m args below meth c Q D G ad A z wE nE P r X hP hR hd2 hnm Qc hQ hfin => ev_s39 X hP hR hd2 (Nat.le_trans (Nat.le_add_left 1 d) hd2.1) (by omega) hcf hQ hfin) (by decide) (by decide)) <|
  ev_r (ev_row_code (by decide +kernel) (fun r wE nE hfm => ev_mo40 hcm hfm) (fun p e R s m args below meth c Q D G ad A z wE nE P r X hP hR hd2 hnm Qc hQ hfin => ev_s40 X hP hR hd2 (Nat.le_trans (Nat.le_add_left 1 d) hd2.1) (by omega) hcf hQ hfin) (by decide) (by decide)) <|
  ev_r (ev_row_code (by decide +kernel) (fun r wE nE hfm => ev_mo41 hcm hfm) (fun p e R s m args below meth c Q D G ad A z wE nE P r X hP hR hd2 hnm Qc hQ hfin => ev_s41 X hP hR hd2 (Nat.le_trans (Nat.le_add_left 1 d) hd2.1) (by omega) hcf hQ hfin) (by decide) (by decide)) <|
  ev_r (ev_row_code (by decide +kernel) (fun r wE nE hfm => ev_mo42 hcm hfm) (fun p e R s m args below meth c Q D G ad A z wE nE P r X hP hR hd2 hnm Qc hQ hfin => ev_s42 X hP hR hd2 (Nat.le_trans (Nat.le_add_left 1 d) hd2.1) (by omega) hcf hQ hfin) (by decide) (by decide)) <|
  ev_r (ev_row_code (by decide +kernel) (fun r wE nE hfm => ev_mo43 hcm hfm) (fun p e R s m args below meth c Q D G ad A z wE nE P r X hP hR hd2 hnm Qc hQ hfin => ev_s43 X hP hR hd2 (Nat.le_trans (Nat.le_add_left 1 d) hd2.1) (by omega) hcf hQ hfin) (by decide) (by decide)) <|
  ev_r (ev_row_code (by decide +kernel) (fun r wE nE hfm => ev_mo44 hcm hfm) (fun p e R s m args below meth c Q D G ad A z wE nE P r X hP hR hd2 hnm Qc hQ hfin => ev_s44 X hP hR hd2 (Nat.le_trans (Nat.le_add_left 1 d) hd2.1) (by omega) hcf hQ hfin) (by decide) (by decide)) <|
  ev_r (ev_row_code (by decide +kernel) (fun r wE nE hfm => ev_mo45 hcm hfm) (fun p e R s m args below meth c Q D G ad A z wE nE P r X hP hR hd2 hnm Qc hQ hfin => ev_s45 X hP hR hd2 (Nat.le_trans (Nat.le_add_left 1 d) hd2.1) (by omega) hcf hnm hQ hfin) (by decide) (by decide)) <|
  ev_r (ev_row_code (by decide +kernel) (fun r wE nE hfm => ev_mo46 hcm hfm) (fun p e R s m args below meth c Q D G ad A z wE nE P r X hP hR hd2 hnm Qc hQ hfin => ev_s46 X hP hR hd2 (Nat.le_trans (Nat.le_add_left 1 d) hd2.1) (by omega) hcf hQ hfin) (by decide) (by decide)) <|
  ev_r (ev_row_code (by decide +kernel) (fun r wE nE hfm => ev_mo47 hcm hfm) (fun p e R s m args below meth c Q D G ad A z wE nE P r X hP hR hd2 hnm Qc hQ hfin => ev_s47 X hP hR hd2 (Nat.le_trans (Nat.le_add_left 1 d) hd2.1) (by omega) hcf hQ hfin) (by decide) (by decide)) <|
  ev_r (ev_row_code (by decide +kernel) (fun r wE nE hfm => ev_mo48 hcm hfm) (fun p e R s m args below meth c Q D G ad A z wE nE P r X hP hR hd2 hnm Qc hQ hfin => ev_s48 X hP hR hd2 (Nat.le_trans (Nat.le_add_left 1 d) hd2.1) (by omega) hcf hQ hfin) (by decide) (by decide)) <|
  ev_r (ev_row_code (by decide +kernel) (fun r wE nE hfm => ev_mo49 hcm hfm) (fun p e R s m args below meth c Q D G ad A z wE nE P r X hP hR hd2 hnm Qc hQ hfin => ev_s49 X hP hR hd2 (Nat.le_trans (Nat.le_add_left 1 d) hd2.1) (by omega) hcf hQ hfin) (by decide) (by decide)) <|
  ev_r (ev_row_code (by decide +kernel) (fun r wE nE hfm => ev_mo50 hcm hfm) (fun p e R s m args below meth c Q D G ad A z wE nE P r X hP hR hd2 hnm Qc hQ hfin => ev_s50 X hP hR hd2 (Nat.le_trans (Nat.le_add_left 1 d) hd2.1) (by omega) hcf hQ hfin) (by decide) (by decide)) <|
  ev_r (ev_row_code (by decide +kernel) (fun r wE nE hfm => ev_mo51 hcm hfm) (fun p e R s m args below meth c Q D G ad A z wE nE P r X hP hR hd2 hnm Qc hQ hfin => ev_s51 X hP hR hd2 (Nat.le_trans (Nat.le_add_left 1 d) hd2.1) (by omega) hcf hQ hfin) (by decide) (by decide)) <|
  ev_r (ev_row_code (by decide +kernel) (fun r wE nE hfm => ev_mo52 hcm hfm) (fun p e R s m args below meth c Q D G ad A z wE nE P r X hP hR hd2 hnm Qc hQ hfin => ev_s52 X hP hR hd2 (Nat.le_trans (Nat.le_add_left 1 d) hd2.1) (by omega) hcf hQ hfin) (by decide) (by decide)) <|
  ev_r (ev_row_code (by decide +kernel) (fun r wE nE hfm => ev_mo53 hcm hfm) (fun p e R s m args below meth c Q D G ad A z wE nE P r X hP hR hd2 hnm Qc hQ hfin => ev_s53 X hP hR hd2 (Nat.le_trans (Nat.le_add_left 1 d) hd2.1) (by omega) hcf hQ hfin) (by decide) (by decide)) <|
  ev_r (ev_row_code (by decide +kernel) (fun r wE nE hfm => ev_mo54 hcm hfm) (fun p e R s m args below meth c Q D G ad A z wE nE P r X hP hR hd2 hnm Qc hQ hfin => ev_s54 X hP hR hd2 (Nat.le_trans (Nat.le_add_left 1 d) hd2.1) (by omega) hcf hQ hfin) (by decide) (by decide)) <|
  ev_r (ev_row_code (by decide +kernel) (fun r wE nE hfm => ev_mo55 hcm hfm) (fun p e R s m args below meth c Q D G ad A z wE nE P r X hP hR hd2 hnm Qc hQ hfin => ev_s55 X hP hR hd2 (Nat.le_trans (Nat.le_add_left 1 d) hd2.1) (by omega) hcf hnm hQ hfin) (by decide) (by decide)) <|
  ev_r (ev_row_code (by decide +kernel) (fun r wE nE hfm => ev_mo56 hcm hfm) (fun p e R s m args below meth c Q D G ad A z wE nE P r X hP hR hd2 hnm Qc hQ hfin => ev_s56 X hP hR hd2 (Nat.le_trans (Nat.le_add_left 1 d) hd2.1) (by omega) hcf hnm hQ hfin) (by decide) (by decide)) <|
  ev_r (ev_row_code (by decide +kernel) (fun r wE nE hfm => ev_mo57 hcm hfm) (fun p e R s m args below meth c Q D G ad A z wE nE P r X hP hR hd2 hnm Qc hQ hfin => ev_s57 X hP hR hd2 (Nat.le_trans (Nat.le_add_left 1 d) hd2.1) (by omega) hcf hnm hQ hfin) (by decide) (by decide)) <|
  ev_r (ev_row_code (by decide +kernel) (fun r wE nE hfm => ev_mo58 hcm hfm) (fun p e R s m args below meth c Q D G ad A z wE nE P r X hP hR hd2 hnm Qc hQ hfin => ev_s58 X hP hR hd2 (Nat.le_trans (Nat.le_add_left 1 d) hd2.1) (by omega) hcf hQ hfin) (by decide) (by decide)) <|
  ev_r (ev_row_code (by decide +kernel) (fun r wE nE hfm => ev_mo59 hcm hfm) (fun p e R s m args below meth c Q D G ad A z wE nE P r X hP hR hd2 hnm Qc hQ hfin => ev_s59 X hP hR hd2 (Nat.le_trans (Nat.le_add_left 1 d) hd2.1) (by omega) hcf hQ hfin) (by decide) (by decide)) <|
  ev_r (ev_row_code (by decide +kernel) (fun r wE nE hfm => ev_mo60 hcm hfm) (fun p e R s m args below meth c Q D G ad A z wE nE P r X hP hR hd2 hnm Qc hQ hfin => ev_s60 X hP hR hd2 (Nat.le_trans (Nat.le_add_left 1 d) hd2.1) (by omega) hcf hnm hQ hfin) (by decide) (by decide)) <|
  ev_r (ev_row_code (by decide +kernel) (fun r wE nE hfm => ev_mo61 hcm hfm) (fun p e R s m args below meth c Q D G ad A z wE nE P r X hP hR hd2 hnm Qc hQ hfin => ev_s61 X hP hR hd2 (Nat.le_trans (Nat.le_add_left 1 d) hd2.1) (by omega) hcf hQ hfin) (by decide) (by decide)) <|
  ev_r (ev_row_code (by decide +kernel) (fun r wE nE hfm => ev_mo62 hcm hfm) (fun p e R s m args below meth c Q D G ad A z wE nE P r X hP hR hd2 hnm Qc hQ hfin => ev_s62 X hP hR hd2 (Nat.le_trans (Nat.le_add_left 1 d) hd2.1) (by omega) hcf hnm hQ hfin) (by decide) (by decide)) <|
  ev_r (ev_row_code (by decide +kernel) (fun r wE nE hfm => ev_mo63 hcm hfm) (fun p e R s m args below meth c Q D G ad A z wE nE P r X hP hR hd2 hnm Qc hQ hfin => ev_s63 X hP hR hd2 (Nat.le_trans (Nat.le_add_left 1 d) hd2.1) (by omega) hcf hnm hQ hfin) (by decide) (by decide)) <|
  ev_r (ev_row_code (by decide +kernel) (fun r wE nE hfm => ev_mo64 hcm hfm) (fun p e R s m args below meth c Q D G ad A z wE nE P r X hP hR hd2 hnm Qc hQ hfin => ev_s64 X hP hR hd2 (Nat.le_trans (Nat.le_add_left 1 d) hd2.1) (by omega) hcf hQ hfin) (by decide) (by decide)) <|
  ev_r (ev_row_code (by decide +kernel) (fun r wE nE hfm => ev_mo65 hcm hfm) (fun p e R s m args below meth c Q D G ad A z wE nE P r X hP hR hd2 hnm Qc hQ hfin => ev_s65 X hP hR hd2 (Nat.le_trans (Nat.le_add_left 1 d) hd2.1) (by omega) hcf hQ hfin) (by decide) (by decide)) <|
  ev_r (ev_row_code (by decide +kernel) (fun r wE nE hfm => ev_mo66 hcm hfm) (fun p e R s m args below meth c Q D G ad A z wE nE P r X hP hR hd2 hnm Qc hQ hfin => ev_s66 X hP hR hd2 (Nat.le_trans (Nat.le_add_left 1 d) hd2.1) (by omega) hcf hQ hfin) (by decide) (by decide)) <|
  ev_r (ev_row_code (by decide +kernel) (fun r wE nE hfm => ev_mo67 hcm hfm) (fun p e R s m args below meth c Q D G ad A z wE nE P r X hP hR hd2 hnm Qc hQ hfin => ev_s67 X hP hR hd2 (Nat.le_trans (Nat.le_add_left 1 d) hd2.1) (by omega) hcf hQ hfin) (by decide) (by decide)) <|
  ev_r (ev_row_code (by decide +kernel) (fun r wE nE hfm => ev_mo68 hcm hfm) (fun p e R s m args below meth c Q D G ad A z wE nE P r X hP hR hd2 hnm Qc hQ hfin => ev_s68 X hP hR hd2 (Nat.le_trans (Nat.le_add_left 1 d) hd2.1) (by omega) hcf hnm hQ hfin) (by decide) (by decide)) <|
  ev_r (ev_row_code (by decide +kernel) (fun r wE nE hfm => ev_mo69 hcm hfm) (fun p e R s m args below meth c Q D G ad A z wE nE P r X hP hR hd2 hnm Qc hQ hfin => ev_s69 X hP hR hd2 (Nat.le_trans (Nat.le_add_left 1 d) hd2.1) (by omega) hcf hQ hfin) (by decide) (by decide)) <|
  ev_r (ev_row_code (by decide +kernel) (fun r wE nE hfm => ev_mo70 hcm hfm) (fun p e R s m args below meth c Q D G ad A z wE nE P r X hP hR hd2 hnm Qc hQ hfin => ev_s70 X hP hR hd2 (Nat.le_trans (Nat.le_add_left 1 d) hd2.1) (by omega) hcf hQ hfin) (by decide) (by decide)) <|
  ev_r (ev_row_code (by decide +kernel) (fun r wE nE hfm => ev_mo71 hcm hfm) (fun p e R s m args below meth c Q D G ad A z wE nE P r X hP hR hd2 hnm Qc hQ hfin => ev_s71 X hP hR hd2 (Nat.le_trans (Nat.le_add_left 1 d) hd2.1) (by omega) hcf hQ hfin) (by decide) (by decide)) <|
  ev_r (ev_row_code (by decide +kernel) (fun r wE nE hfm => ev_mo72 hcm hfm) (fun p e R s m args below meth c Q D G ad A z wE nE P r X hP hR hd2 hnm Qc hQ hfin => ev_s72 X hP hR hd2 (Nat.le_trans (Nat.le_add_left 1 d) hd2.1) (by omega) hcf hnm hQ hfin) (by decide) (by decide)) <|
  ev_r (ev_row_code (by decide +kernel) (fun r wE nE hfm => ev_mo73 hcm hfm) (fun p e R s m args below meth c Q D G ad A z wE nE P r X hP hR hd2 hnm Qc hQ hfin => ev_s73 X hP hR hd2 (Nat.le_trans (Nat.le_add_left 1 d) hd2.1) (by omega) hcf hQ hfin) (by decide) (by decide)) <|
  ev_r (ev_row_code (by decide +kernel) (fun r wE nE hfm => ev_mo74 hcm hfm) (fun p e R s m args below meth c Q D G ad A z wE nE P r X hP hR hd2 hnm Qc hQ hfin => ev_s74 X hP hR hd2 (Nat.le_trans (Nat.le_add_left 1 d) hd2.1) (by omega) hcf hQ hfin) (by decide) (by decide)) <|
  ev_r (ev_row_code (by decide +kernel) (fun r wE nE hfm => ev_mo75 hcm hfm) (fun p e R s m args below meth c Q D G ad A z wE nE P r X hP hR hd2 hnm Qc hQ hfin => ev_s75 X hP hR hd2 (Nat.le_trans (Nat.le_add_left 1 d) hd2.1) (by omega) hcf hnm hQ hfin) (by decide) (by decide)) <|
  ev_r (ev_row_code (by decide +kernel) (fun r wE nE hfm => ev_mo76 hcm hfm) (fun p e R s m args below meth c Q D G ad A z wE nE P r X hP hR hd2 hnm Qc hQ hfin => ev_s76 X hP hR hd2 (Nat.le_trans (Nat.le_add_left 1 d) hd2.1) (by omega) hcf hQ hfin) (by decide) (by decide)) <| ev_r0
theorem ev_main (l : Launch) : ∀ d : Nat, ev_cf l ev_ys d (ev_call d) ∧ ev_cm (ev_call d) := by
  intro d
  induction d with
  | zero => exact ⟨(fun y vs w w1 rv k1 h => by cases h), (fun y vs w w1 rv k1 h => by cases h)⟩
  | succ d ih =>
    have key : ∀ (y : Nat) (vs : List Value) (w w1 : ev_W) (rv : Option Value) (k1 : Nat), ev_call (d + 1) y vs w = some (rv, w1, k1) → ∃ M q, ev_ys[y]? = some q ∧ ev_row l d q M ∧ ev_go M vs w = some (rv, w1, k1) := by
      intro y vs w w1 rv k1 h
      obtain ⟨M, hM, hgo⟩ := ev_oc_some (show ev_oc (ev_at (ev_tabs (ev_call d)) y) (fun M => ev_go M vs w) = some (rv, w1, k1) from h)
      rw [ev_at_eq] at hM
      obtain ⟨q, h1, h2⟩ := ev_rows_at ev_ys (ev_tabs (ev_call d)) y M (ev_rowsall ih.1 ih.2) hM
      exact ⟨M, q, h1, h2, hgo⟩
    refine ⟨fun y vs w w1 rv k1 h => ?_, fun y vs w w1 rv k1 h => ?_⟩
    · obtain ⟨M, q, h1, h2, h3⟩ := key y vs w w1 rv k1 h
      obtain ⟨h4, h5⟩ := h2 vs w w1 rv k1 h3
      refine ⟨h4, fun nm ws hy => ?_⟩
      cases h1.symm.trans hy
      exact h5
    · obtain ⟨M, q, h1, h2, h3⟩ := key y vs w w1 rv k1 h
      exact (h2 vs w w1 rv k1 h3).1
def ev_y_Lib_Math_max_name : Nat := 0
def ev_y_yJx35411_checkForComodification_da8c8 : Nat := 1
def ev_y_yJx35411_hasNext_aae02 : Nat := 2
def ev_y_yJx35411_init_45d68 : Nat := 3
def ev_y_yJx35411_next_0502b : Nat := 4
def ev_y_yJx4a65c_add_72be8 : Nat := 5
def ev_y_yJx4a65c_add_9ea2d : Nat := 6
def ev_y_yJx4a65c_clear_da8c8 : Nat := 7
def ev_y_yJx4a65c_grow_92f84 : Nat := 8
def ev_y_yJx4a65c_grow_d5877 : Nat := 9
def ev_y_yJx4a65c_init_da8c8 : Nat := 10
def ev_y_yJx4a65c_iterator_32c93 : Nat := 11
def ev_y_yJx4a65c_size_8abf5 : Nat := 12
def ev_y_yJxa1e45_init_da8c8 : Nat := 13
def ev_y_yJxc12de_init_da8c8 : Nat := 14
def ev_y_yL_commit : Nat := 15
def ev_y_yL_law : Nat := 16
def ev_y_yL_tell : Nat := 17
def ev_y_yL_unsay : Nat := 18
def ev_y_yX0_add : Nat := 19
def ev_y_yX0_empty : Nat := 20
def ev_y_yX0_init : Nat := 21
def ev_y_yX10_at : Nat := 22
def ev_y_yX10_broken : Nat := 23
def ev_y_yX10_checkBatchRoom : Nat := 24
def ev_y_yX10_checkTriple : Nat := 25
def ev_y_yX10_commit : Nat := 26
def ev_y_yX10_copy : Nat := 27
def ev_y_yX10_fill : Nat := 28
def ev_y_yX10_init : Nat := 29
def ev_y_yX10_isIn : Nat := 30
def ev_y_yX10_put : Nat := 31
def ev_y_yX10_tell : Nat := 32
def ev_y_yX10_toldChanged : Nat := 33
def ev_y_yX10_tryBatch : Nat := 34
def ev_y_yX10_unsay : Nat := 35
def ev_y_yX11_init : Nat := 36
def ev_y_yX12_holds : Nat := 37
def ev_y_yX12_init : Nat := 38
def ev_y_yX13_broken : Nat := 39
def ev_y_yX13_broken_ : Nat := 40
def ev_y_yX13_commit : Nat := 41
def ev_y_yX13_committed : Nat := 42
def ev_y_yX13_digit : Nat := 43
def ev_y_yX13_forget : Nat := 44
def ev_y_yX13_init : Nat := 45
def ev_y_yX13_is : Nat := 46
def ev_y_yX13_isTriple : Nat := 47
def ev_y_yX13_newBinding : Nat := 48
def ev_y_yX13_place : Nat := 49
def ev_y_yX13_place_ : Nat := 50
def ev_y_yX13_tell : Nat := 51
def ev_y_yX13_thrown : Nat := 52
def ev_y_yX13_told : Nat := 53
def ev_y_yX13_unsay : Nat := 54
def ev_y_yX1_init : Nat := 55
def ev_y_yX2_init : Nat := 56
def ev_y_yX3_init : Nat := 57
def ev_y_yX4_headOf : Nat := 58
def ev_y_yX4_headsOf : Nat := 59
def ev_y_yX4_init : Nat := 60
def ev_y_yX4_separate : Nat := 61
def ev_y_yX5_init : Nat := 62
def ev_y_yX6_init : Nat := 63
def ev_y_yX7_begin : Nat := 64
def ev_y_yX7_copyFrom : Nat := 65
def ev_y_yX7_end : Nat := 66
def ev_y_yX7_holdsIn : Nat := 67
def ev_y_yX7_init : Nat := 68
def ev_y_yX7_isOpen : Nat := 69
def ev_y_yX7_openRowOf : Nat := 70
def ev_y_yX7_take : Nat := 71
def ev_y_yX8_init : Nat := 72
def ev_y_yX9_brokenHeads : Nat := 73
def ev_y_yX9_gather : Nat := 74
def ev_y_yX9_init : Nat := 75
def ev_y_yX9_isBrokenFor : Nat := 76
end
section
/-! the runs: what the evaluator answers, by the kernel -/
def ev_scr : List Value := [.int 0, .int 0, .int 1, .int 0, .int 0, .int 1, .int 1, .int 0, .int 0, .int 2, .int 1, .int 0, .int 0, .int 3, .int 1, .int 0, .int 0, .int 4, .int 1, .int 0, .int 0, .int 5, .int 1, .int 0, .int 0, .int 10, .int 1, .int 0, .int 0, .int 11, .int 1, .int 0, .int 0, .int 12, .int 1, .int 0, .int 0, .int 13, .int 1, .int 0, .int 3, .int 0, .int 0, .int 0, .int 1, .int 542, .int 0, .int 0, .int 1, .int 543, .int 0, .int 0, .int 1, .int 544, .int 0, .int 0, .int 1, .int 545, .int 0, .int 0, .int 1, .int 550, .int 0, .int 0, .int 1, .int 551, .int 0, .int 0, .int 1, .int 552, .int 0, .int 0, .int 1, .int 553, .int 0, .int 0, .int 1, .int 554, .int 0, .int 0, .int 1, .int 555, .int 0, .int 0, .int 22, .int 0, .int 0, .int 0] ++ (List.replicate 490 [.int 22, .int 0, .int 0, .int 0]).flatten
def ev_w0 : ev_W := [(0, 2048, ev_scr), (2, 0, [])]
def ev_wP : ev_W := [(0, 2048, ev_scr), (2, 0, []),
  (18, 16, [.ref 3, .ref 5, .ref 8, .ref 14, .ref 20, .ref 22, .ref 24, .ref 28, .ref 35, .ref 37, .ref 39, .ref 43, .int 1, .int 0, .int 0, .int 0]),
  (12, 2, [.ref 4, .int 0]),
  (0, 6, [.int 0, .int 1, .int 2, .int 3, .int 4, .int 5]),
  (8, 3, [.ref 6, .ref 7, .int 10]),
  (0, 12, [.int 542, .int 543, .int 544, .int 545, .int 550, .int 551, .int 552, .int 553, .int 554, .int 555, .int 0, .int 0]),
  (0, 12, [.int 0, .int 0, .int 0, .int 0, .int 0, .int 0, .int 0, .int 0, .int 0, .int 0, .int 0, .int 0]),
  (15, 6, [.ref 9, .ref 10, .ref 11, .ref 12, .ref 13, .int 10]),
  (0, 72, [.int 0, .int 1, .int 2, .int 3, .int 4, .int 5, .int 10, .int 11, .int 12, .int 13, .int 0, .int 0, .int 0, .int 0, .int 0, .int 0, .int 0, .int 0, .int 0, .int 0, .int 0, .int 0, .int 0, .int 0, .int 0, .int 0, .int 0, .int 0, .int 0, .int 0, .int 0, .int 0, .int 0, .int 0, .int 0, .int 0, .int 0, .int 0, .int 0, .int 0, .int 0, .int 0, .int 0, .int 0, .int 0, .int 0, .int 0, .int 0, .int 0, .int 0, .int 0, .int 0, .int 0, .int 0, .int 0, .int 0, .int 0, .int 0, .int 0, .int 0, .int 0, .int 0, .int 0, .int 0, .int 0, .int 0, .int 0, .int 0, .int 0, .int 0, .int 0, .int 0]),
  (0, 72, [.int 0, .int 1, .int 2, .int 3, .int 4, .int 5, .int 10, .int 11, .int 12, .int 13, .int 0, .int 0, .int 0, .int 0, .int 0, .int 0, .int 0, .int 0, .int 0, .int 0, .int 0, .int 0, .int 0, .int 0, .int 0, .int 0, .int 0, .int 0, .int 0, .int 0, .int 0, .int 0, .int 0, .int 0, .int 0, .int 0, .int 0, .int 0, .int 0, .int 0, .int 0, .int 0, .int 0, .int 0, .int 0, .int 0, .int 0, .int 0, .int 0, .int 0, .int 0, .int 0, .int 0, .int 0, .int 0, .int 0, .int 0, .int 0, .int 0, .int 0, .int 0, .int 0, .int 0, .int 0, .int 0, .int 0, .int 0, .int 0, .int 0, .int 0, .int 0, .int 0]),
  (0, 72, [.int 1, .int 1, .int 1, .int 1, .int 1, .int 1, .int 1, .int 1, .int 1, .int 1, .int 0, .int 0, .int 0, .int 0, .int 0, .int 0, .int 0, .int 0, .int 0, .int 0, .int 0, .int 0, .int 0, .int 0, .int 0, .int 0, .int 0, .int 0, .int 0, .int 0, .int 0, .int 0, .int 0, .int 0, .int 0, .int 0, .int 0, .int 0, .int 0, .int 0, .int 0, .int 0, .int 0, .int 0, .int 0, .int 0, .int 0, .int 0, .int 0, .int 0, .int 0, .int 0, .int 0, .int 0, .int 0, .int 0, .int 0, .int 0, .int 0, .int 0, .int 0, .int 0, .int 0, .int 0, .int 0, .int 0, .int 0, .int 0, .int 0, .int 0, .int 0, .int 0]),
  (0, 72, [.int 1, .int 1, .int 1, .int 1, .int 1, .int 1, .int 1, .int 1, .int 1, .int 1, .int 0, .int 0, .int 0, .int 0, .int 0, .int 0, .int 0, .int 0, .int 0, .int 0, .int 0, .int 0, .int 0, .int 0, .int 0, .int 0, .int 0, .int 0, .int 0, .int 0, .int 0, .int 0, .int 0, .int 0, .int 0, .int 0, .int 0, .int 0, .int 0, .int 0, .int 0, .int 0, .int 0, .int 0, .int 0, .int 0, .int 0, .int 0, .int 0, .int 0, .int 0, .int 0, .int 0, .int 0, .int 0, .int 0, .int 0, .int 0, .int 0, .int 0, .int 0, .int 0, .int 0, .int 0, .int 0, .int 0, .int 0, .int 0, .int 0, .int 0, .int 0, .int 0]),
  (0, 72, [.int (-1), .int (-1), .int (-1), .int (-1), .int (-1), .int (-1), .int (-1), .int (-1), .int (-1), .int (-1), .int 0, .int 0, .int 0, .int 0, .int 0, .int 0, .int 0, .int 0, .int 0, .int 0, .int 0, .int 0, .int 0, .int 0, .int 0, .int 0, .int 0, .int 0, .int 0, .int 0, .int 0, .int 0, .int 0, .int 0, .int 0, .int 0, .int 0, .int 0, .int 0, .int 0, .int 0, .int 0, .int 0, .int 0, .int 0, .int 0, .int 0, .int 0, .int 0, .int 0, .int 0, .int 0, .int 0, .int 0, .int 0, .int 0, .int 0, .int 0, .int 0, .int 0, .int 0, .int 0, .int 0, .int 0, .int 0, .int 0, .int 0, .int 0, .int 0, .int 0, .int 0, .int 0]),
  (15, 6, [.ref 15, .ref 16, .ref 17, .ref 18, .ref 19, .int 10]),
  (0, 72, [.int 0, .int 1, .int 2, .int 3, .int 4, .int 5, .int 10, .int 11, .int 12, .int 13, .int 0, .int 0, .int 0, .int 0, .int 0, .int 0, .int 0, .int 0, .int 0, .int 0, .int 0, .int 0, .int 0, .int 0, .int 0, .int 0, .int 0, .int 0, .int 0, .int 0, .int 0, .int 0, .int 0, .int 0, .int 0, .int 0, .int 0, .int 0, .int 0, .int 0, .int 0, .int 0, .int 0, .int 0, .int 0, .int 0, .int 0, .int 0, .int 0, .int 0, .int 0, .int 0, .int 0, .int 0, .int 0, .int 0, .int 0, .int 0, .int 0, .int 0, .int 0, .int 0, .int 0, .int 0, .int 0, .int 0, .int 0, .int 0, .int 0, .int 0, .int 0, .int 0]),
  (0, 72, [.int 0, .int 1, .int 2, .int 3, .int 4, .int 5, .int 10, .int 11, .int 12, .int 13, .int 0, .int 0, .int 0, .int 0, .int 0, .int 0, .int 0, .int 0, .int 0, .int 0, .int 0, .int 0, .int 0, .int 0, .int 0, .int 0, .int 0, .int 0, .int 0, .int 0, .int 0, .int 0, .int 0, .int 0, .int 0, .int 0, .int 0, .int 0, .int 0, .int 0, .int 0, .int 0, .int 0, .int 0, .int 0, .int 0, .int 0, .int 0, .int 0, .int 0, .int 0, .int 0, .int 0, .int 0, .int 0, .int 0, .int 0, .int 0, .int 0, .int 0, .int 0, .int 0, .int 0, .int 0, .int 0, .int 0, .int 0, .int 0, .int 0, .int 0, .int 0, .int 0]),
  (0, 72, [.int 1, .int 1, .int 1, .int 1, .int 1, .int 1, .int 1, .int 1, .int 1, .int 1, .int 0, .int 0, .int 0, .int 0, .int 0, .int 0, .int 0, .int 0, .int 0, .int 0, .int 0, .int 0, .int 0, .int 0, .int 0, .int 0, .int 0, .int 0, .int 0, .int 0, .int 0, .int 0, .int 0, .int 0, .int 0, .int 0, .int 0, .int 0, .int 0, .int 0, .int 0, .int 0, .int 0, .int 0, .int 0, .int 0, .int 0, .int 0, .int 0, .int 0, .int 0, .int 0, .int 0, .int 0, .int 0, .int 0, .int 0, .int 0, .int 0, .int 0, .int 0, .int 0, .int 0, .int 0, .int 0, .int 0, .int 0, .int 0, .int 0, .int 0, .int 0, .int 0]),
  (0, 72, [.int 1, .int 1, .int 1, .int 1, .int 1, .int 1, .int 1, .int 1, .int 1, .int 1, .int 0, .int 0, .int 0, .int 0, .int 0, .int 0, .int 0, .int 0, .int 0, .int 0, .int 0, .int 0, .int 0, .int 0, .int 0, .int 0, .int 0, .int 0, .int 0, .int 0, .int 0, .int 0, .int 0, .int 0, .int 0, .int 0, .int 0, .int 0, .int 0, .int 0, .int 0, .int 0, .int 0, .int 0, .int 0, .int 0, .int 0, .int 0, .int 0, .int 0, .int 0, .int 0, .int 0, .int 0, .int 0, .int 0, .int 0, .int 0, .int 0, .int 0, .int 0, .int 0, .int 0, .int 0, .int 0, .int 0, .int 0, .int 0, .int 0, .int 0, .int 0, .int 0]),
  (0, 72, [.int (-1), .int (-1), .int (-1), .int (-1), .int (-1), .int (-1), .int (-1), .int (-1), .int (-1), .int (-1), .int 0, .int 0, .int 0, .int 0, .int 0, .int 0, .int 0, .int 0, .int 0, .int 0, .int 0, .int 0, .int 0, .int 0, .int 0, .int 0, .int 0, .int 0, .int 0, .int 0, .int 0, .int 0, .int 0, .int 0, .int 0, .int 0, .int 0, .int 0, .int 0, .int 0, .int 0, .int 0, .int 0, .int 0, .int 0, .int 0, .int 0, .int 0, .int 0, .int 0, .int 0, .int 0, .int 0, .int 0, .int 0, .int 0, .int 0, .int 0, .int 0, .int 0, .int 0, .int 0, .int 0, .int 0, .int 0, .int 0, .int 0, .int 0, .int 0, .int 0, .int 0, .int 0]),
  (17, 1, [.ref 21]),
  (0, 56, [.int 63, .int 15, .int 0, .int 0, .int 0, .int 0, .int 0, .int 0, .int 0, .int 0, .int 0, .int 0, .int 0, .int 0, .int 0, .int 0, .int 0, .int 0, .int 0, .int 0, .int 0, .int 0, .int 0, .int 0, .int 0, .int 0, .int 0, .int 0, .int 0, .int 0, .int 0, .int 0, .int 0, .int 0, .int 0, .int 0, .int 0, .int 0, .int 0, .int 0, .int 0, .int 0, .int 0, .int 0, .int 0, .int 0, .int 0, .int 0, .int 0, .int 0, .int 0, .int 0, .int 0, .int 0, .int 0, .int 0]),
  (17, 1, [.ref 23]),
  (0, 56, [.int 63, .int 15, .int 0, .int 0, .int 0, .int 0, .int 0, .int 0, .int 0, .int 0, .int 0, .int 0, .int 0, .int 0, .int 0, .int 0, .int 0, .int 0, .int 0, .int 0, .int 0, .int 0, .int 0, .int 0, .int 0, .int 0, .int 0, .int 0, .int 0, .int 0, .int 0, .int 0, .int 0, .int 0, .int 0, .int 0, .int 0, .int 0, .int 0, .int 0, .int 0, .int 0, .int 0, .int 0, .int 0, .int 0, .int 0, .int 0, .int 0, .int 0, .int 0, .int 0, .int 0, .int 0, .int 0, .int 0]),
  (16, 4, [.ref 25, .ref 26, .ref 27, .int 0]),
  (0, 3, [.int 0, .int 0, .int 0]),
  (0, 3, [.int 0, .int 0, .int 0]),
  (0, 3, [.int 0, .int 0, .int 0]),
  (11, 6, [.ref 29, .ref 30, .ref 31, .ref 32, .ref 33, .int 0]),
  (0, 648, List.replicate 648 (.int 0)),
  (0, 648, List.replicate 648 (.int 0)),
  (0, 648, List.replicate 648 (.int 0)),
  (0, 648, List.replicate 648 (.int 0)),
  (9, 2, [.ref 34, .int 0]),
  (0, 10, [.int 0, .int 0, .int 0, .int 0, .int 0, .int 0, .int 0, .int 0, .int 0, .int 0]),
  (10, 3, [.ref 36, .int 0, .int 0]),
  (0, 556, List.replicate 556 (.int 0)),
  (10, 3, [.ref 38, .int 0, .int 0]),
  (0, 556, List.replicate 556 (.int 0)),
  (13, 3, [.ref 40, .ref 41, .ref 42]),
  (0, 556, List.replicate 556 (.int 0)),
  (0, 556, List.replicate 556 (.int 0)),
  (0, 556, List.replicate 556 (.int 0)),
  (14, 9, [.ref 44, .ref 45, .ref 46, .ref 47, .ref 49, .int 0, .int 0, .int (-1), .int 0]),
  (0, 3, [.int 0, .int 0, .int 0]),
  (0, 3, [.int 0, .int 0, .int 0]),
  (0, 1296, List.replicate 1296 (.int 0)),
  (9, 2, [.ref 48, .int 0]),
  (0, 10, [.int 0, .int 0, .int 0, .int 0, .int 0, .int 0, .int 0, .int 0, .int 0, .int 0]),
  (9, 2, [.ref 50, .int 0]),
  (0, 10, [.int 0, .int 0, .int 0, .int 0, .int 0, .int 0, .int 0, .int 0, .int 0, .int 0]),
  (21, 12, [.int 0, .ref 52, .int 1, .ref 53, .ref 54, .ref 55, .ref 56, .int (-1), .int 0, .null, .null, .long 0]),
  (0, 6, [.int 0, .int 1, .int 2, .int 3, .int 4, .int 5]),
  (7, 3, [.int 11, .ref 106, .int 10]),
  (7, 3, [.int 21, .ref 59, .int 10]),
  (7, 3, [.int 0, .ref 1, .int 0]),
  (7, 3, [.int 0, .ref 1, .int 0]),
  (19, 2, [.long 10, .null]),
  (0, 2, [.int 0, .int 1]),
  (2, 10, [.ref 107, .ref 108, .ref 109, .ref 110, .ref 111, .ref 112, .ref 113, .ref 114, .ref 115, .ref 116]),
  (0, 2, [.int 1, .int 1]),
  (0, 2, [.int 2, .int 1]),
  (0, 2, [.int 3, .int 1]),
  (0, 2, [.int 4, .int 1]),
  (0, 2, [.int 5, .int 1]),
  (0, 2, [.int 10, .int 1]),
  (0, 2, [.int 11, .int 1]),
  (0, 2, [.int 12, .int 1]),
  (0, 2, [.int 13, .int 1]),
  (7, 3, [.int 10, .ref 74, .int 10]),
  (6, 4, [.int 0, .int (-1), .int 0, .ref 53]),
  (6, 4, [.int 10, .int 9, .int 10, .ref 54]),
  (6, 4, [.int 0, .int (-1), .int 0, .ref 69]),
  (20, 4, [.int 0, .int 1, .int 1, .int 1000]),
  (2, 10, [.ref 73, .ref 76, .ref 78, .ref 80, .ref 82, .ref 84, .ref 86, .ref 88, .ref 90, .ref 92]),
  (6, 4, [.int 1, .int 0, .int 1, .ref 69]),
  (20, 4, [.int 1, .int 1, .int 1, .int 1000]),
  (6, 4, [.int 2, .int 1, .int 2, .ref 69]),
  (20, 4, [.int 2, .int 1, .int 1, .int 1000]),
  (6, 4, [.int 3, .int 2, .int 3, .ref 69]),
  (20, 4, [.int 3, .int 1, .int 1, .int 1000]),
  (6, 4, [.int 4, .int 3, .int 4, .ref 69]),
  (20, 4, [.int 4, .int 1, .int 1, .int 1000]),
  (6, 4, [.int 5, .int 4, .int 5, .ref 69]),
  (20, 4, [.int 5, .int 1, .int 1, .int 1000]),
  (6, 4, [.int 6, .int 5, .int 6, .ref 69]),
  (20, 4, [.int 10, .int 1, .int 1, .int 1000]),
  (6, 4, [.int 7, .int 6, .int 7, .ref 69]),
  (20, 4, [.int 11, .int 1, .int 1, .int 1000]),
  (6, 4, [.int 8, .int 7, .int 8, .ref 69]),
  (20, 4, [.int 12, .int 1, .int 1, .int 1000]),
  (6, 4, [.int 9, .int 8, .int 9, .ref 69]),
  (20, 4, [.int 13, .int 1, .int 1, .int 1000]),
  (1, 216, [.int 1, .int 1, .int 1, .int 1, .int 1, .int 1, .int 1, .int 1, .int 1, .int 1, .int 0, .int 0, .int 0, .int 0, .int 0, .int 0, .int 0, .int 0, .int 0, .int 0, .int 0, .int 0, .int 0, .int 0, .int 0, .int 0, .int 0, .int 0, .int 0, .int 0, .int 0, .int 0, .int 0, .int 0, .int 0, .int 0, .int 0, .int 0, .int 0, .int 0, .int 0, .int 0, .int 0, .int 0, .int 0, .int 0, .int 0, .int 0, .int 0, .int 0, .int 0, .int 0, .int 0, .int 0, .int 0, .int 0, .int 0, .int 0, .int 0, .int 0, .int 0, .int 0, .int 0, .int 0, .int 0, .int 0, .int 0, .int 0, .int 0, .int 0, .int 0, .int 0, .int 0, .int 0, .int 0, .int 0, .int 0, .int 0, .int 0, .int 0, .int 0, .int 0, .int 0, .int 0, .int 0, .int 0, .int 0, .int 0, .int 0, .int 0, .int 0, .int 0, .int 0, .int 0, .int 0, .int 0, .int 0, .int 0, .int 0, .int 0, .int 0, .int 0, .int 0, .int 0, .int 0, .int 0, .int 0, .int 0, .int 0, .int 0, .int 0, .int 0, .int 0, .int 0, .int 0, .int 0, .int 0, .int 0, .int 0, .int 0, .int 0, .int 0, .int 0, .int 0, .int 0, .int 0, .int 0, .int 0, .int 0, .int 0, .int 0, .int 0, .int 0, .int 0, .int 0, .int 0, .int 0, .int 0, .int 0, .int 0, .int 0, .int 0, .int 0, .int 0, .int 0, .int 0, .int 0, .int 0, .int 0, .int 0, .int 0, .int 0, .int 0, .int 0, .int 0, .int 0, .int 0, .int 0, .int 0, .int 0, .int 0, .int 0, .int 0, .int 0, .int 0, .int 0, .int 0, .int 0, .int 0, .int 0, .int 0, .int 0, .int 0, .int 0, .int 0, .int 0, .int 0, .int 0, .int 0, .int 0, .int 0, .int 0, .int 0, .int 0, .int 0, .int 0, .int 0, .int 0, .int 0, .int 0, .int 0, .int 0, .int 0, .int 0, .int 0, .int 0, .int 0, .int 0, .int 0, .int 0, .int 0, .int 0, .int 0, .int 0, .int 0, .int 0, .int 0, .int 0, .int 0, .int 0, .int 0, .int 0, .int 0, .int 0, .int 0, .int 0]),
  (6, 4, [.int 10, .int 9, .int 10, .ref 69]),
  (0, 4, [.int 9, .int 9, .int 9, .int 9]),
  (0, 4, [.int 9, .int 9, .int 9, .int 9]),
  (0, 4, [.int 9, .int 9, .int 9, .int 9]),
  (0, 4, [.int 9, .int 9, .int 9, .int 9]),
  (0, 4, [.int 9, .int 9, .int 9, .int 9]),
  (0, 4, [.int 9, .int 9, .int 9, .int 9]),
  (0, 4, [.int 9, .int 9, .int 9, .int 9]),
  (0, 4, [.int 9, .int 9, .int 9, .int 9]),
  (0, 4, [.int 9, .int 9, .int 9, .int 9]),
  (0, 4, [.int 9, .int 9, .int 9, .int 9]),
  (6, 4, [.int 10, .int 9, .int 10, .ref 69]),
  (2, 10, [.ref 73, .ref 76, .ref 78, .ref 80, .ref 82, .ref 84, .ref 86, .ref 88, .ref 90, .ref 92]),
  (0, 2, [.int 542, .int 0]),
  (0, 2, [.int 543, .int 0]),
  (0, 2, [.int 544, .int 0]),
  (0, 2, [.int 545, .int 0]),
  (0, 2, [.int 550, .int 0]),
  (0, 2, [.int 551, .int 0]),
  (0, 2, [.int 552, .int 0]),
  (0, 2, [.int 553, .int 0]),
  (0, 2, [.int 554, .int 0]),
  (0, 2, [.int 555, .int 0]),
  (7, 3, [.int 10, .ref 120, .int 10]),
  (6, 4, [.int 10, .int 9, .int 11, .ref 53]),
  (20, 4, [.int 0, .int 1, .int 1, .int 1000]),
  (2, 10, [.ref 119, .ref 121, .ref 122, .ref 123, .ref 124, .ref 125, .ref 126, .ref 127, .ref 128, .ref 129]),
  (20, 4, [.int 1, .int 1, .int 1, .int 1000]),
  (20, 4, [.int 2, .int 1, .int 1, .int 1000]),
  (20, 4, [.int 3, .int 1, .int 1, .int 1000]),
  (20, 4, [.int 4, .int 1, .int 1, .int 1000]),
  (20, 4, [.int 5, .int 1, .int 1, .int 1000]),
  (20, 4, [.int 10, .int 1, .int 1, .int 1000]),
  (20, 4, [.int 11, .int 1, .int 1, .int 1000]),
  (20, 4, [.int 12, .int 1, .int 1, .int 1000]),
  (20, 4, [.int 13, .int 1, .int 1, .int 1000]),
  (6, 4, [.int 10, .int 9, .int 21, .ref 54]),
  (6, 4, [.int 10, .int 9, .int 10, .ref 117]),
  (0, 4, [.int 9, .int 9, .int 9, .int 9]),
  (0, 4, [.int 9, .int 9, .int 9, .int 9]),
  (0, 4, [.int 9, .int 9, .int 9, .int 9]),
  (0, 4, [.int 9, .int 9, .int 9, .int 9]),
  (0, 4, [.int 9, .int 9, .int 9, .int 9]),
  (0, 4, [.int 9, .int 9, .int 9, .int 9]),
  (0, 4, [.int 9, .int 9, .int 9, .int 9]),
  (0, 4, [.int 9, .int 9, .int 9, .int 9]),
  (0, 4, [.int 9, .int 9, .int 9, .int 9]),
  (0, 4, [.int 9, .int 9, .int 9, .int 9]),
  (0, 4, [.int 9, .int 9, .int 9, .int 9]),
  (0, 4, [.int 9, .int 9, .int 9, .int 9]),
  (0, 4, [.int 9, .int 9, .int 9, .int 9]),
  (0, 4, [.int 9, .int 9, .int 9, .int 9]),
  (0, 4, [.int 9, .int 9, .int 9, .int 9]),
  (0, 4, [.int 9, .int 9, .int 9, .int 9]),
  (0, 4, [.int 9, .int 9, .int 9, .int 9]),
  (0, 4, [.int 9, .int 9, .int 9, .int 9]),
  (0, 4, [.int 9, .int 9, .int 9, .int 9]),
  (0, 4, [.int 9, .int 9, .int 9, .int 9]),
  (6, 4, [.int 10, .int 9, .int 10, .ref 117]),
  (0, 4, [.int 9, .int 9, .int 9, .int 9]),
  (0, 4, [.int 9, .int 9, .int 9, .int 9]),
  (0, 4, [.int 9, .int 9, .int 9, .int 9]),
  (0, 4, [.int 9, .int 9, .int 9, .int 9]),
  (0, 4, [.int 9, .int 9, .int 9, .int 9]),
  (0, 4, [.int 9, .int 9, .int 9, .int 9]),
  (0, 4, [.int 9, .int 9, .int 9, .int 9]),
  (0, 4, [.int 9, .int 9, .int 9, .int 9]),
  (0, 4, [.int 9, .int 9, .int 9, .int 9]),
  (0, 4, [.int 9, .int 9, .int 9, .int 9]),
  (0, 4, [.int 9, .int 9, .int 9, .int 9]),
  (0, 4, [.int 9, .int 9, .int 9, .int 9]),
  (0, 4, [.int 9, .int 9, .int 9, .int 9]),
  (0, 4, [.int 9, .int 9, .int 9, .int 9]),
  (0, 4, [.int 9, .int 9, .int 9, .int 9]),
  (0, 4, [.int 9, .int 9, .int 9, .int 9]),
  (0, 4, [.int 9, .int 9, .int 9, .int 9]),
  (0, 4, [.int 9, .int 9, .int 9, .int 9]),
  (0, 4, [.int 9, .int 9, .int 9, .int 9]),
  (0, 4, [.int 9, .int 9, .int 9, .int 9]),
  (6, 4, [.int 10, .int 9, .int 10, .ref 117]),
  (0, 4, [.int 9, .int 9, .int 9, .int 9]),
  (0, 4, [.int 9, .int 9, .int 9, .int 9]),
  (0, 4, [.int 9, .int 9, .int 9, .int 9]),
  (0, 4, [.int 9, .int 9, .int 9, .int 9]),
  (0, 4, [.int 9, .int 9, .int 9, .int 9]),
  (0, 4, [.int 9, .int 9, .int 9, .int 9]),
  (0, 4, [.int 9, .int 9, .int 9, .int 9]),
  (0, 4, [.int 9, .int 9, .int 9, .int 9]),
  (0, 4, [.int 9, .int 9, .int 9, .int 9]),
  (0, 4, [.int 9, .int 9, .int 9, .int 9]),
  (0, 4, [.int 9, .int 9, .int 9, .int 9]),
  (0, 4, [.int 9, .int 9, .int 9, .int 9]),
  (0, 4, [.int 9, .int 9, .int 9, .int 9]),
  (0, 4, [.int 9, .int 9, .int 9, .int 9]),
  (0, 4, [.int 9, .int 9, .int 9, .int 9]),
  (0, 4, [.int 9, .int 9, .int 9, .int 9]),
  (0, 4, [.int 9, .int 9, .int 9, .int 9]),
  (0, 4, [.int 9, .int 9, .int 9, .int 9]),
  (0, 4, [.int 9, .int 9, .int 9, .int 9]),
  (0, 4, [.int 9, .int 9, .int 9, .int 9]),
  (6, 4, [.int 10, .int 9, .int 10, .ref 117]),
  (0, 4, [.int 9, .int 9, .int 9, .int 9]),
  (0, 4, [.int 9, .int 9, .int 9, .int 9]),
  (0, 4, [.int 9, .int 9, .int 9, .int 9]),
  (0, 4, [.int 9, .int 9, .int 9, .int 9]),
  (0, 4, [.int 9, .int 9, .int 9, .int 9]),
  (0, 4, [.int 9, .int 9, .int 9, .int 9]),
  (0, 4, [.int 9, .int 9, .int 9, .int 9]),
  (0, 4, [.int 9, .int 9, .int 9, .int 9]),
  (0, 4, [.int 9, .int 9, .int 9, .int 9]),
  (0, 4, [.int 9, .int 9, .int 9, .int 9]),
  (0, 4, [.int 9, .int 9, .int 9, .int 9]),
  (0, 4, [.int 9, .int 9, .int 9, .int 9]),
  (0, 4, [.int 9, .int 9, .int 9, .int 9]),
  (0, 4, [.int 9, .int 9, .int 9, .int 9]),
  (0, 4, [.int 9, .int 9, .int 9, .int 9]),
  (0, 4, [.int 9, .int 9, .int 9, .int 9]),
  (0, 4, [.int 9, .int 9, .int 9, .int 9]),
  (0, 4, [.int 9, .int 9, .int 9, .int 9]),
  (0, 4, [.int 9, .int 9, .int 9, .int 9]),
  (0, 4, [.int 9, .int 9, .int 9, .int 9]),
  (6, 4, [.int 10, .int 9, .int 10, .ref 117]),
  (0, 4, [.int 9, .int 9, .int 9, .int 9]),
  (0, 4, [.int 9, .int 9, .int 9, .int 9]),
  (0, 4, [.int 9, .int 9, .int 9, .int 9]),
  (0, 4, [.int 9, .int 9, .int 9, .int 9]),
  (0, 4, [.int 9, .int 9, .int 9, .int 9]),
  (0, 4, [.int 9, .int 9, .int 9, .int 9]),
  (0, 4, [.int 9, .int 9, .int 9, .int 9]),
  (0, 4, [.int 9, .int 9, .int 9, .int 9]),
  (0, 4, [.int 9, .int 9, .int 9, .int 9]),
  (0, 4, [.int 9, .int 9, .int 9, .int 9]),
  (0, 4, [.int 9, .int 9, .int 9, .int 9]),
  (0, 4, [.int 9, .int 9, .int 9, .int 9]),
  (0, 4, [.int 9, .int 9, .int 9, .int 9]),
  (0, 4, [.int 9, .int 9, .int 9, .int 9]),
  (0, 4, [.int 9, .int 9, .int 9, .int 9]),
  (0, 4, [.int 9, .int 9, .int 9, .int 9]),
  (0, 4, [.int 9, .int 9, .int 9, .int 9]),
  (0, 4, [.int 9, .int 9, .int 9, .int 9]),
  (0, 4, [.int 9, .int 9, .int 9, .int 9]),
  (0, 4, [.int 9, .int 9, .int 9, .int 9]),
  (6, 4, [.int 10, .int 9, .int 10, .ref 117]),
  (0, 4, [.int 9, .int 9, .int 9, .int 9]),
  (0, 4, [.int 9, .int 9, .int 9, .int 9]),
  (0, 4, [.int 9, .int 9, .int 9, .int 9]),
  (0, 4, [.int 9, .int 9, .int 9, .int 9]),
  (0, 4, [.int 9, .int 9, .int 9, .int 9]),
  (0, 4, [.int 9, .int 9, .int 9, .int 9]),
  (0, 4, [.int 9, .int 9, .int 9, .int 9]),
  (0, 4, [.int 9, .int 9, .int 9, .int 9]),
  (0, 4, [.int 9, .int 9, .int 9, .int 9]),
  (0, 4, [.int 9, .int 9, .int 9, .int 9]),
  (0, 4, [.int 9, .int 9, .int 9, .int 9]),
  (0, 4, [.int 9, .int 9, .int 9, .int 9]),
  (0, 4, [.int 9, .int 9, .int 9, .int 9]),
  (0, 4, [.int 9, .int 9, .int 9, .int 9]),
  (0, 4, [.int 9, .int 9, .int 9, .int 9]),
  (0, 4, [.int 9, .int 9, .int 9, .int 9]),
  (0, 4, [.int 9, .int 9, .int 9, .int 9]),
  (0, 4, [.int 9, .int 9, .int 9, .int 9]),
  (0, 4, [.int 9, .int 9, .int 9, .int 9]),
  (0, 4, [.int 9, .int 9, .int 9, .int 9]),
  (6, 4, [.int 10, .int 9, .int 10, .ref 117]),
  (0, 4, [.int 9, .int 9, .int 9, .int 9]),
  (0, 4, [.int 9, .int 9, .int 9, .int 9]),
  (0, 4, [.int 9, .int 9, .int 9, .int 9]),
  (0, 4, [.int 9, .int 9, .int 9, .int 9]),
  (0, 4, [.int 9, .int 9, .int 9, .int 9]),
  (0, 4, [.int 9, .int 9, .int 9, .int 9]),
  (0, 4, [.int 9, .int 9, .int 9, .int 9]),
  (0, 4, [.int 9, .int 9, .int 9, .int 9]),
  (0, 4, [.int 9, .int 9, .int 9, .int 9]),
  (0, 4, [.int 9, .int 9, .int 9, .int 9]),
  (0, 4, [.int 9, .int 9, .int 9, .int 9]),
  (0, 4, [.int 9, .int 9, .int 9, .int 9]),
  (0, 4, [.int 9, .int 9, .int 9, .int 9]),
  (0, 4, [.int 9, .int 9, .int 9, .int 9]),
  (0, 4, [.int 9, .int 9, .int 9, .int 9]),
  (0, 4, [.int 9, .int 9, .int 9, .int 9]),
  (0, 4, [.int 9, .int 9, .int 9, .int 9]),
  (0, 4, [.int 9, .int 9, .int 9, .int 9]),
  (0, 4, [.int 9, .int 9, .int 9, .int 9]),
  (0, 4, [.int 9, .int 9, .int 9, .int 9]),
  (6, 4, [.int 10, .int 9, .int 10, .ref 117]),
  (0, 4, [.int 9, .int 9, .int 9, .int 9]),
  (0, 4, [.int 9, .int 9, .int 9, .int 9]),
  (0, 4, [.int 9, .int 9, .int 9, .int 9]),
  (0, 4, [.int 9, .int 9, .int 9, .int 9]),
  (0, 4, [.int 9, .int 9, .int 9, .int 9]),
  (0, 4, [.int 9, .int 9, .int 9, .int 9]),
  (0, 4, [.int 9, .int 9, .int 9, .int 9]),
  (0, 4, [.int 9, .int 9, .int 9, .int 9]),
  (0, 4, [.int 9, .int 9, .int 9, .int 9]),
  (0, 4, [.int 9, .int 9, .int 9, .int 9]),
  (0, 4, [.int 9, .int 9, .int 9, .int 9]),
  (0, 4, [.int 9, .int 9, .int 9, .int 9]),
  (0, 4, [.int 9, .int 9, .int 9, .int 9]),
  (0, 4, [.int 9, .int 9, .int 9, .int 9]),
  (0, 4, [.int 9, .int 9, .int 9, .int 9]),
  (0, 4, [.int 9, .int 9, .int 9, .int 9]),
  (0, 4, [.int 9, .int 9, .int 9, .int 9]),
  (0, 4, [.int 9, .int 9, .int 9, .int 9]),
  (0, 4, [.int 9, .int 9, .int 9, .int 9]),
  (0, 4, [.int 9, .int 9, .int 9, .int 9]),
  (6, 4, [.int 10, .int 9, .int 10, .ref 117]),
  (0, 4, [.int 9, .int 9, .int 9, .int 9]),
  (0, 4, [.int 9, .int 9, .int 9, .int 9]),
  (0, 4, [.int 9, .int 9, .int 9, .int 9]),
  (0, 4, [.int 9, .int 9, .int 9, .int 9]),
  (0, 4, [.int 9, .int 9, .int 9, .int 9]),
  (0, 4, [.int 9, .int 9, .int 9, .int 9]),
  (0, 4, [.int 9, .int 9, .int 9, .int 9]),
  (0, 4, [.int 9, .int 9, .int 9, .int 9]),
  (0, 4, [.int 9, .int 9, .int 9, .int 9]),
  (0, 4, [.int 9, .int 9, .int 9, .int 9]),
  (0, 4, [.int 9, .int 9, .int 9, .int 9]),
  (0, 4, [.int 9, .int 9, .int 9, .int 9]),
  (0, 4, [.int 9, .int 9, .int 9, .int 9]),
  (0, 4, [.int 9, .int 9, .int 9, .int 9]),
  (0, 4, [.int 9, .int 9, .int 9, .int 9]),
  (0, 4, [.int 9, .int 9, .int 9, .int 9]),
  (0, 4, [.int 9, .int 9, .int 9, .int 9]),
  (0, 4, [.int 9, .int 9, .int 9, .int 9]),
  (0, 4, [.int 9, .int 9, .int 9, .int 9]),
  (0, 4, [.int 9, .int 9, .int 9, .int 9]),
  (6, 4, [.int 10, .int 9, .int 10, .ref 117]),
  (0, 4, [.int 9, .int 9, .int 9, .int 9]),
  (0, 4, [.int 9, .int 9, .int 9, .int 9]),
  (0, 4, [.int 9, .int 9, .int 9, .int 9]),
  (0, 4, [.int 9, .int 9, .int 9, .int 9]),
  (0, 4, [.int 9, .int 9, .int 9, .int 9]),
  (0, 4, [.int 9, .int 9, .int 9, .int 9]),
  (0, 4, [.int 9, .int 9, .int 9, .int 9]),
  (0, 4, [.int 9, .int 9, .int 9, .int 9]),
  (0, 4, [.int 9, .int 9, .int 9, .int 9]),
  (0, 4, [.int 9, .int 9, .int 9, .int 9]),
  (0, 4, [.int 9, .int 9, .int 9, .int 9]),
  (0, 4, [.int 9, .int 9, .int 9, .int 9]),
  (0, 4, [.int 9, .int 9, .int 9, .int 9]),
  (0, 4, [.int 9, .int 9, .int 9, .int 9]),
  (0, 4, [.int 9, .int 9, .int 9, .int 9]),
  (0, 4, [.int 9, .int 9, .int 9, .int 9]),
  (0, 4, [.int 9, .int 9, .int 9, .int 9]),
  (0, 4, [.int 9, .int 9, .int 9, .int 9]),
  (0, 4, [.int 9, .int 9, .int 9, .int 9]),
  (0, 4, [.int 9, .int 9, .int 9, .int 9]),
  (1, 216, [.int 1, .int 1, .int 1, .int 1, .int 1, .int 1, .int 1, .int 1, .int 1, .int 1, .int 0, .int 0, .int 0, .int 0, .int 0, .int 0, .int 0, .int 0, .int 0, .int 0, .int 0, .int 0, .int 0, .int 0, .int 0, .int 0, .int 0, .int 0, .int 0, .int 0, .int 0, .int 0, .int 0, .int 0, .int 0, .int 0, .int 0, .int 0, .int 0, .int 0, .int 0, .int 0, .int 0, .int 0, .int 0, .int 0, .int 0, .int 0, .int 0, .int 0, .int 0, .int 0, .int 0, .int 0, .int 0, .int 0, .int 0, .int 0, .int 0, .int 0, .int 0, .int 0, .int 0, .int 0, .int 0, .int 0, .int 0, .int 0, .int 0, .int 0, .int 0, .int 0, .int 0, .int 0, .int 0, .int 0, .int 0, .int 0, .int 0, .int 0, .int 0, .int 0, .int 0, .int 0, .int 0, .int 0, .int 0, .int 0, .int 0, .int 0, .int 0, .int 0, .int 0, .int 0, .int 0, .int 0, .int 0, .int 0, .int 0, .int 0, .int 0, .int 0, .int 0, .int 0, .int 0, .int 0, .int 0, .int 0, .int 0, .int 0, .int 0, .int 0, .int 0, .int 0, .int 0, .int 0, .int 0, .int 0, .int 0, .int 0, .int 0, .int 0, .int 0, .int 0, .int 0, .int 0, .int 0, .int 0, .int 0, .int 0, .int 0, .int 0, .int 0, .int 0, .int 0, .int 0, .int 0, .int 0, .int 0, .int 0, .int 0, .int 0, .int 0, .int 0, .int 0, .int 0, .int 0, .int 0, .int 0, .int 0, .int 0, .int 0, .int 0, .int 0, .int 0, .int 0, .int 0, .int 0, .int 0, .int 0, .int 0, .int 0, .int 0, .int 0, .int 0, .int 0, .int 0, .int 0, .int 0, .int 0, .int 0, .int 0, .int 0, .int 0, .int 0, .int 0, .int 0, .int 0, .int 0, .int 0, .int 0, .int 0, .int 0, .int 0, .int 0, .int 0, .int 0, .int 0, .int 0, .int 0, .int 0, .int 0, .int 0, .int 0, .int 0, .int 0, .int 0, .int 0, .int 0, .int 0, .int 0, .int 0, .int 0, .int 0, .int 0, .int 0, .int 0, .int 0, .int 0, .int 0, .int 0, .int 0, .int 0, .int 0, .int 0, .int 0]),
  (6, 4, [.int 10, .int 9, .int 10, .ref 117]),
  (0, 4, [.int 9, .int 9, .int 9, .int 9]),
  (0, 4, [.int 9, .int 9, .int 9, .int 9]),
  (0, 4, [.int 9, .int 9, .int 9, .int 9]),
  (0, 4, [.int 9, .int 9, .int 9, .int 9]),
  (0, 4, [.int 9, .int 9, .int 9, .int 9]),
  (0, 4, [.int 9, .int 9, .int 9, .int 9]),
  (0, 4, [.int 9, .int 9, .int 9, .int 9]),
  (0, 4, [.int 9, .int 9, .int 9, .int 9]),
  (0, 4, [.int 9, .int 9, .int 9, .int 9]),
  (0, 4, [.int 9, .int 9, .int 9, .int 9])]
def ev_wQ : ev_W := [(0, 2048, ev_scr), (2, 0, []),
  (18, 16, [.ref 5, .ref 6, .ref 7, .ref 8, .ref 9, .ref 10, .ref 11, .ref 12, .ref 13, .ref 14, .ref 15, .ref 16, .int 1, .int 0, .int 0, .int 0]),
  (21, 12, [.int 0, .ref 17, .int 1, .ref 18, .ref 19, .ref 20, .ref 21, .int (-1), .int 0, .null, .null, .long 0]),
  (19, 2, [.long 10, .null]),
  (12, 2, [.ref 22, .int 0]),
  (8, 3, [.ref 23, .ref 24, .int 10]),
  (15, 6, [.ref 25, .ref 26, .ref 27, .ref 28, .ref 29, .int 10]),
  (15, 6, [.ref 30, .ref 31, .ref 32, .ref 33, .ref 34, .int 10]),
  (17, 1, [.ref 35]),
  (17, 1, [.ref 36]),
  (16, 4, [.ref 37, .ref 38, .ref 39, .int 0]),
  (11, 6, [.ref 40, .ref 41, .ref 42, .ref 43, .ref 44, .int 0]),
  (10, 3, [.ref 45, .int 0, .int 0]),
  (10, 3, [.ref 46, .int 0, .int 0]),
  (13, 3, [.ref 47, .ref 48, .ref 49]),
  (14, 9, [.ref 50, .ref 51, .ref 52, .ref 53, .ref 54, .int 0, .int 0, .int (-1), .int 0]),
  (0, 6, [.int 0, .int 1, .int 2, .int 3, .int 4, .int 5]),
  (7, 3, [.int 11, .ref 55, .int 10]),
  (7, 3, [.int 21, .ref 56, .int 10]),
  (7, 3, [.int 0, .ref 1, .int 0]),
  (7, 3, [.int 0, .ref 1, .int 0]),
  (0, 6, [.int 0, .int 1, .int 2, .int 3, .int 4, .int 5]),
  (0, 12, [.int 542, .int 543, .int 544, .int 545, .int 550, .int 551, .int 552, .int 553, .int 554, .int 555, .int 0, .int 0]),
  (0, 12, [.int 0, .int 0, .int 0, .int 0, .int 0, .int 0, .int 0, .int 0, .int 0, .int 0, .int 0, .int 0]),
  (0, 72, [.int 0, .int 1, .int 2, .int 3, .int 4, .int 5, .int 10, .int 11, .int 12, .int 13, .int 0, .int 0, .int 0, .int 0, .int 0, .int 0, .int 0, .int 0, .int 0, .int 0, .int 0, .int 0, .int 0, .int 0, .int 0, .int 0, .int 0, .int 0, .int 0, .int 0, .int 0, .int 0, .int 0, .int 0, .int 0, .int 0, .int 0, .int 0, .int 0, .int 0, .int 0, .int 0, .int 0, .int 0, .int 0, .int 0, .int 0, .int 0, .int 0, .int 0, .int 0, .int 0, .int 0, .int 0, .int 0, .int 0, .int 0, .int 0, .int 0, .int 0, .int 0, .int 0, .int 0, .int 0, .int 0, .int 0, .int 0, .int 0, .int 0, .int 0, .int 0, .int 0]),
  (0, 72, [.int 0, .int 1, .int 2, .int 3, .int 4, .int 5, .int 10, .int 11, .int 12, .int 13, .int 0, .int 0, .int 0, .int 0, .int 0, .int 0, .int 0, .int 0, .int 0, .int 0, .int 0, .int 0, .int 0, .int 0, .int 0, .int 0, .int 0, .int 0, .int 0, .int 0, .int 0, .int 0, .int 0, .int 0, .int 0, .int 0, .int 0, .int 0, .int 0, .int 0, .int 0, .int 0, .int 0, .int 0, .int 0, .int 0, .int 0, .int 0, .int 0, .int 0, .int 0, .int 0, .int 0, .int 0, .int 0, .int 0, .int 0, .int 0, .int 0, .int 0, .int 0, .int 0, .int 0, .int 0, .int 0, .int 0, .int 0, .int 0, .int 0, .int 0, .int 0, .int 0]),
  (0, 72, [.int 1, .int 1, .int 1, .int 1, .int 1, .int 1, .int 1, .int 1, .int 1, .int 1, .int 0, .int 0, .int 0, .int 0, .int 0, .int 0, .int 0, .int 0, .int 0, .int 0, .int 0, .int 0, .int 0, .int 0, .int 0, .int 0, .int 0, .int 0, .int 0, .int 0, .int 0, .int 0, .int 0, .int 0, .int 0, .int 0, .int 0, .int 0, .int 0, .int 0, .int 0, .int 0, .int 0, .int 0, .int 0, .int 0, .int 0, .int 0, .int 0, .int 0, .int 0, .int 0, .int 0, .int 0, .int 0, .int 0, .int 0, .int 0, .int 0, .int 0, .int 0, .int 0, .int 0, .int 0, .int 0, .int 0, .int 0, .int 0, .int 0, .int 0, .int 0, .int 0]),
  (0, 72, [.int 1, .int 1, .int 1, .int 1, .int 1, .int 1, .int 1, .int 1, .int 1, .int 1, .int 0, .int 0, .int 0, .int 0, .int 0, .int 0, .int 0, .int 0, .int 0, .int 0, .int 0, .int 0, .int 0, .int 0, .int 0, .int 0, .int 0, .int 0, .int 0, .int 0, .int 0, .int 0, .int 0, .int 0, .int 0, .int 0, .int 0, .int 0, .int 0, .int 0, .int 0, .int 0, .int 0, .int 0, .int 0, .int 0, .int 0, .int 0, .int 0, .int 0, .int 0, .int 0, .int 0, .int 0, .int 0, .int 0, .int 0, .int 0, .int 0, .int 0, .int 0, .int 0, .int 0, .int 0, .int 0, .int 0, .int 0, .int 0, .int 0, .int 0, .int 0, .int 0]),
  (0, 72, [.int (-1), .int (-1), .int (-1), .int (-1), .int (-1), .int (-1), .int (-1), .int (-1), .int (-1), .int (-1), .int 0, .int 0, .int 0, .int 0, .int 0, .int 0, .int 0, .int 0, .int 0, .int 0, .int 0, .int 0, .int 0, .int 0, .int 0, .int 0, .int 0, .int 0, .int 0, .int 0, .int 0, .int 0, .int 0, .int 0, .int 0, .int 0, .int 0, .int 0, .int 0, .int 0, .int 0, .int 0, .int 0, .int 0, .int 0, .int 0, .int 0, .int 0, .int 0, .int 0, .int 0, .int 0, .int 0, .int 0, .int 0, .int 0, .int 0, .int 0, .int 0, .int 0, .int 0, .int 0, .int 0, .int 0, .int 0, .int 0, .int 0, .int 0, .int 0, .int 0, .int 0, .int 0]),
  (0, 72, [.int 0, .int 1, .int 2, .int 3, .int 4, .int 5, .int 10, .int 11, .int 12, .int 13, .int 0, .int 0, .int 0, .int 0, .int 0, .int 0, .int 0, .int 0, .int 0, .int 0, .int 0, .int 0, .int 0, .int 0, .int 0, .int 0, .int 0, .int 0, .int 0, .int 0, .int 0, .int 0, .int 0, .int 0, .int 0, .int 0, .int 0, .int 0, .int 0, .int 0, .int 0, .int 0, .int 0, .int 0, .int 0, .int 0, .int 0, .int 0, .int 0, .int 0, .int 0, .int 0, .int 0, .int 0, .int 0, .int 0, .int 0, .int 0, .int 0, .int 0, .int 0, .int 0, .int 0, .int 0, .int 0, .int 0, .int 0, .int 0, .int 0, .int 0, .int 0, .int 0]),
  (0, 72, [.int 0, .int 1, .int 2, .int 3, .int 4, .int 5, .int 10, .int 11, .int 12, .int 13, .int 0, .int 0, .int 0, .int 0, .int 0, .int 0, .int 0, .int 0, .int 0, .int 0, .int 0, .int 0, .int 0, .int 0, .int 0, .int 0, .int 0, .int 0, .int 0, .int 0, .int 0, .int 0, .int 0, .int 0, .int 0, .int 0, .int 0, .int 0, .int 0, .int 0, .int 0, .int 0, .int 0, .int 0, .int 0, .int 0, .int 0, .int 0, .int 0, .int 0, .int 0, .int 0, .int 0, .int 0, .int 0, .int 0, .int 0, .int 0, .int 0, .int 0, .int 0, .int 0, .int 0, .int 0, .int 0, .int 0, .int 0, .int 0, .int 0, .int 0, .int 0, .int 0]),
  (0, 72, [.int 1, .int 1, .int 1, .int 1, .int 1, .int 1, .int 1, .int 1, .int 1, .int 1, .int 0, .int 0, .int 0, .int 0, .int 0, .int 0, .int 0, .int 0, .int 0, .int 0, .int 0, .int 0, .int 0, .int 0, .int 0, .int 0, .int 0, .int 0, .int 0, .int 0, .int 0, .int 0, .int 0, .int 0, .int 0, .int 0, .int 0, .int 0, .int 0, .int 0, .int 0, .int 0, .int 0, .int 0, .int 0, .int 0, .int 0, .int 0, .int 0, .int 0, .int 0, .int 0, .int 0, .int 0, .int 0, .int 0, .int 0, .int 0, .int 0, .int 0, .int 0, .int 0, .int 0, .int 0, .int 0, .int 0, .int 0, .int 0, .int 0, .int 0, .int 0, .int 0]),
  (0, 72, [.int 1, .int 1, .int 1, .int 1, .int 1, .int 1, .int 1, .int 1, .int 1, .int 1, .int 0, .int 0, .int 0, .int 0, .int 0, .int 0, .int 0, .int 0, .int 0, .int 0, .int 0, .int 0, .int 0, .int 0, .int 0, .int 0, .int 0, .int 0, .int 0, .int 0, .int 0, .int 0, .int 0, .int 0, .int 0, .int 0, .int 0, .int 0, .int 0, .int 0, .int 0, .int 0, .int 0, .int 0, .int 0, .int 0, .int 0, .int 0, .int 0, .int 0, .int 0, .int 0, .int 0, .int 0, .int 0, .int 0, .int 0, .int 0, .int 0, .int 0, .int 0, .int 0, .int 0, .int 0, .int 0, .int 0, .int 0, .int 0, .int 0, .int 0, .int 0, .int 0]),
  (0, 72, [.int (-1), .int (-1), .int (-1), .int (-1), .int (-1), .int (-1), .int (-1), .int (-1), .int (-1), .int (-1), .int 0, .int 0, .int 0, .int 0, .int 0, .int 0, .int 0, .int 0, .int 0, .int 0, .int 0, .int 0, .int 0, .int 0, .int 0, .int 0, .int 0, .int 0, .int 0, .int 0, .int 0, .int 0, .int 0, .int 0, .int 0, .int 0, .int 0, .int 0, .int 0, .int 0, .int 0, .int 0, .int 0, .int 0, .int 0, .int 0, .int 0, .int 0, .int 0, .int 0, .int 0, .int 0, .int 0, .int 0, .int 0, .int 0, .int 0, .int 0, .int 0, .int 0, .int 0, .int 0, .int 0, .int 0, .int 0, .int 0, .int 0, .int 0, .int 0, .int 0, .int 0, .int 0]),
  (0, 56, [.int 63, .int 15, .int 0, .int 0, .int 0, .int 0, .int 0, .int 0, .int 0, .int 0, .int 0, .int 0, .int 0, .int 0, .int 0, .int 0, .int 0, .int 0, .int 0, .int 0, .int 0, .int 0, .int 0, .int 0, .int 0, .int 0, .int 0, .int 0, .int 0, .int 0, .int 0, .int 0, .int 0, .int 0, .int 0, .int 0, .int 0, .int 0, .int 0, .int 0, .int 0, .int 0, .int 0, .int 0, .int 0, .int 0, .int 0, .int 0, .int 0, .int 0, .int 0, .int 0, .int 0, .int 0, .int 0, .int 0]),
  (0, 56, [.int 63, .int 15, .int 0, .int 0, .int 0, .int 0, .int 0, .int 0, .int 0, .int 0, .int 0, .int 0, .int 0, .int 0, .int 0, .int 0, .int 0, .int 0, .int 0, .int 0, .int 0, .int 0, .int 0, .int 0, .int 0, .int 0, .int 0, .int 0, .int 0, .int 0, .int 0, .int 0, .int 0, .int 0, .int 0, .int 0, .int 0, .int 0, .int 0, .int 0, .int 0, .int 0, .int 0, .int 0, .int 0, .int 0, .int 0, .int 0, .int 0, .int 0, .int 0, .int 0, .int 0, .int 0, .int 0, .int 0]),
  (0, 3, [.int 0, .int 0, .int 0]),
  (0, 3, [.int 0, .int 0, .int 0]),
  (0, 3, [.int 0, .int 0, .int 0]),
  (0, 648, List.replicate 648 (.int 0)),
  (0, 648, List.replicate 648 (.int 0)),
  (0, 648, List.replicate 648 (.int 0)),
  (0, 648, List.replicate 648 (.int 0)),
  (9, 2, [.ref 57, .int 0]),
  (0, 556, List.replicate 556 (.int 0)),
  (0, 556, List.replicate 556 (.int 0)),
  (0, 556, List.replicate 556 (.int 0)),
  (0, 556, List.replicate 556 (.int 0)),
  (0, 556, List.replicate 556 (.int 0)),
  (0, 3, [.int 0, .int 0, .int 0]),
  (0, 3, [.int 0, .int 0, .int 0]),
  (0, 1296, List.replicate 1296 (.int 0)),
  (9, 2, [.ref 58, .int 0]),
  (9, 2, [.ref 59, .int 0]),
  (2, 10, [.ref 60, .ref 61, .ref 62, .ref 63, .ref 64, .ref 65, .ref 66, .ref 67, .ref 68, .ref 69]),
  (2, 10, [.ref 70, .ref 71, .ref 72, .ref 73, .ref 74, .ref 75, .ref 76, .ref 77, .ref 78, .ref 79]),
  (0, 10, [.int 0, .int 0, .int 0, .int 0, .int 0, .int 0, .int 0, .int 0, .int 0, .int 0]),
  (0, 10, [.int 0, .int 0, .int 0, .int 0, .int 0, .int 0, .int 0, .int 0, .int 0, .int 0]),
  (0, 10, [.int 0, .int 0, .int 0, .int 0, .int 0, .int 0, .int 0, .int 0, .int 0, .int 0]),
  (20, 4, [.int 0, .int 1, .int 1, .int 1000]),
  (20, 4, [.int 1, .int 1, .int 1, .int 1000]),
  (20, 4, [.int 2, .int 1, .int 1, .int 1000]),
  (20, 4, [.int 3, .int 1, .int 1, .int 1000]),
  (20, 4, [.int 4, .int 1, .int 1, .int 1000]),
  (20, 4, [.int 5, .int 1, .int 1, .int 1000]),
  (20, 4, [.int 10, .int 1, .int 1, .int 1000]),
  (20, 4, [.int 11, .int 1, .int 1, .int 1000]),
  (20, 4, [.int 12, .int 1, .int 1, .int 1000]),
  (20, 4, [.int 13, .int 1, .int 1, .int 1000]),
  (0, 2, [.int 542, .int 0]),
  (0, 2, [.int 543, .int 0]),
  (0, 2, [.int 544, .int 0]),
  (0, 2, [.int 545, .int 0]),
  (0, 2, [.int 550, .int 0]),
  (0, 2, [.int 551, .int 0]),
  (0, 2, [.int 552, .int 0]),
  (0, 2, [.int 553, .int 0]),
  (0, 2, [.int 554, .int 0]),
  (0, 2, [.int 555, .int 0])]
/-- where the live cells stood -/
def ev_sg0 : List Nat := [0, 1, 2, 51, 57, 3, 5, 8, 14, 20, 22, 24, 28, 35, 37, 39, 43, 52, 53, 54, 55, 56, 4, 6, 7, 9, 10, 11, 12, 13, 15, 16, 17, 18, 19, 21, 23, 25, 26, 27, 29, 30, 31, 32, 33, 36, 38, 40, 41, 42, 44, 45, 46, 47, 49, 106, 59, 34, 48, 50, 73, 76, 78, 80, 82, 84, 86, 88, 90, 92, 107, 108, 109, 110, 111, 112, 113, 114, 115, 116]
def ev_dW : DecidableEq ev_W := inferInstance
def ev_dR : DecidableEq (Option Value × ev_W × Nat) := fun a b => @instDecidableEqProd (Option Value) (ev_W × Nat) inferInstance (fun a b => @instDecidableEqProd ev_W Nat ev_dW inferInstance a b) a b
def ev_dR2 : DecidableEq (Option Value × ev_W × Nat × Nat) := fun a b => @instDecidableEqProd (Option Value) (ev_W × Nat × Nat) inferInstance (fun a b => @instDecidableEqProd ev_W (Nat × Nat) ev_dW inferInstance a b) a b
abbrev ev_St : Type := Nat × List Value × List Value × ev_W × Nat
def ev_dS : DecidableEq ev_St := fun a b => @instDecidableEqProd Nat (List Value × List Value × ev_W × Nat) inferInstance (fun a b => @instDecidableEqProd (List Value) (List Value × ev_W × Nat) inferInstance (fun a b => @instDecidableEqProd (List Value) (ev_W × Nat) inferInstance (fun a b => @instDecidableEqProd ev_W Nat ev_dW inferInstance a b) a b) a b) a b
def ev_dO {α : Type} (d : DecidableEq α) : DecidableEq (Option α) := letI := d; inferInstance
set_option maxRecDepth 100000 in
theorem ev_run1 : ev_run (ev_o16 (ev_call 8) (fun _ _ _ => none)) (fun pc L S w n => (some (pc, L, S, w, n) : Option ev_St)) 917 0 [.ref 0, .retAddr 0, .retAddr 0, .retAddr 0, .retAddr 0, .retAddr 0, .retAddr 0] [] ev_w0 0 = some (27, [.ref 0, .ref 2, .ref 51, .ref 57, .int 88, .int 0, .int 10], [], ev_wP, 9262) := @of_decide_eq_true _ (ev_dO ev_dS _ _) (by decide +kernel)
set_option maxRecDepth 100000 in
theorem ev_run2 : ev_call 8 23 [.ref 2] ev_wQ = some (some (.int 0), ev_wQ, 0) := @of_decide_eq_true _ (ev_dO ev_dR _ _) (by decide +kernel)
set_option maxRecDepth 100000 in
theorem ev_run3 : (ev_call 8 40 [.ref 3] ev_wQ).map (fun q => (q.1, q.2.1.take 80, q.2.1.length, q.2.2)) = some (some (.int 0), ev_wQ, 316, 1161) := @of_decide_eq_true _ (ev_dO ev_dR2 _ _) (by decide +kernel)
end
