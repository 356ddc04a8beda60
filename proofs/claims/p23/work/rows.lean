section
-- ===== PART A: goes FIRST, ahead of the names: the tables' words, and 'selects' of the private methods out of them =====
/-- a private method of a class that the tables say can be made, by its rows of tables_1 -/
def lw_okq (q : MethodName × Nat) : Prop := (q.1.cls ≠ "java/lang/invoke/MethodHandle" ∧ q.1.cls ≠ "java/lang/invoke/VarHandle") ∧ Cond.instantiable q.1.cls q.2 ∈ tables_1 ∧ Cond.privateMethod q.1 ∈ tables_1 ∧ Cond.instanceMethod q.1 ∈ tables_1
theorem lw_p0 : lw_okq (⟨"CutoffMill$Result", "setUnbuilt", "(I)V"⟩, 10) := ⟨⟨by decide +kernel, by decide +kernel⟩, List.mem_of_getElem? (i := 154) (by decide +kernel), List.mem_of_getElem? (i := 162) (by decide +kernel), List.mem_of_getElem? (i := 163) (by decide +kernel)⟩
theorem lw_p1 : lw_okq (⟨"java/lang/Throwable", "fillInStackTrace", "(I)Ljava/lang/Throwable;"⟩, 6) := ⟨⟨by decide +kernel, by decide +kernel⟩, List.mem_of_getElem? (i := 358) (by decide +kernel), List.mem_of_getElem? (i := 356) (by decide +kernel), List.mem_of_getElem? (i := 357) (by decide +kernel)⟩
theorem lw_p2 : lw_okq (⟨"CutoffMill", "settle", "()V"⟩, 11) := ⟨⟨by decide +kernel, by decide +kernel⟩, List.mem_of_getElem? (i := 22) (by decide +kernel), List.mem_of_getElem? (i := 388) (by decide +kernel), List.mem_of_getElem? (i := 389) (by decide +kernel)⟩
theorem lw_p3 : lw_okq (⟨"CutoffMill$Names", "settleImports", "()V"⟩, 8) := ⟨⟨by decide +kernel, by decide +kernel⟩, List.mem_of_getElem? (i := 59) (by decide +kernel), List.mem_of_getElem? (i := 396) (by decide +kernel), List.mem_of_getElem? (i := 397) (by decide +kernel)⟩
theorem lw_p4 : lw_okq (⟨"CutoffMill$Names", "settleImport", "(II)V"⟩, 8) := ⟨⟨by decide +kernel, by decide +kernel⟩, List.mem_of_getElem? (i := 59) (by decide +kernel), List.mem_of_getElem? (i := 407) (by decide +kernel), List.mem_of_getElem? (i := 408) (by decide +kernel)⟩
theorem lw_p5 : lw_okq (⟨"CutoffMill$Names", "settleOutside", "()V"⟩, 8) := ⟨⟨by decide +kernel, by decide +kernel⟩, List.mem_of_getElem? (i := 59) (by decide +kernel), List.mem_of_getElem? (i := 427) (by decide +kernel), List.mem_of_getElem? (i := 428) (by decide +kernel)⟩
theorem lw_p6 : lw_okq (⟨"CutoffMill$Names", "lookedUp", "(I)I"⟩, 8) := ⟨⟨by decide +kernel, by decide +kernel⟩, List.mem_of_getElem? (i := 59) (by decide +kernel), List.mem_of_getElem? (i := 431) (by decide +kernel), List.mem_of_getElem? (i := 432) (by decide +kernel)⟩
theorem lw_p7 : lw_okq (⟨"CutoffMill$Names", "broughtTo", "(III)I"⟩, 8) := ⟨⟨by decide +kernel, by decide +kernel⟩, List.mem_of_getElem? (i := 59) (by decide +kernel), List.mem_of_getElem? (i := 442) (by decide +kernel), List.mem_of_getElem? (i := 443) (by decide +kernel)⟩
theorem lw_p8 : lw_okq (⟨"CutoffMill$Names", "wantReferences", "(I)V"⟩, 8) := ⟨⟨by decide +kernel, by decide +kernel⟩, List.mem_of_getElem? (i := 59) (by decide +kernel), List.mem_of_getElem? (i := 452) (by decide +kernel), List.mem_of_getElem? (i := 453) (by decide +kernel)⟩
theorem lw_p9 : lw_okq (⟨"CutoffMill$Names", "want", "(II)V"⟩, 8) := ⟨⟨by decide +kernel, by decide +kernel⟩, List.mem_of_getElem? (i := 59) (by decide +kernel), List.mem_of_getElem? (i := 459) (by decide +kernel), List.mem_of_getElem? (i := 460) (by decide +kernel)⟩
theorem lw_p10 : lw_okq (⟨"CutoffMill$Rings", "settleLeaning", "()V"⟩, 7) := ⟨⟨by decide +kernel, by decide +kernel⟩, List.mem_of_getElem? (i := 94) (by decide +kernel), List.mem_of_getElem? (i := 467) (by decide +kernel), List.mem_of_getElem? (i := 468) (by decide +kernel)⟩
theorem lw_p11 : lw_okq (⟨"CutoffMill$Rings", "ringAround", "(I)I"⟩, 7) := ⟨⟨by decide +kernel, by decide +kernel⟩, List.mem_of_getElem? (i := 94) (by decide +kernel), List.mem_of_getElem? (i := 474) (by decide +kernel), List.mem_of_getElem? (i := 475) (by decide +kernel)⟩
theorem lw_p12 : lw_okq (⟨"CutoffMill$Rings", "settleOrder", "()V"⟩, 7) := ⟨⟨by decide +kernel, by decide +kernel⟩, List.mem_of_getElem? (i := 94) (by decide +kernel), List.mem_of_getElem? (i := 478) (by decide +kernel), List.mem_of_getElem? (i := 479) (by decide +kernel)⟩
theorem lw_p13 : lw_okq (⟨"CutoffMill$Rings", "nextBehind", "(I)I"⟩, 7) := ⟨⟨by decide +kernel, by decide +kernel⟩, List.mem_of_getElem? (i := 94) (by decide +kernel), List.mem_of_getElem? (i := 482) (by decide +kernel), List.mem_of_getElem? (i := 483) (by decide +kernel)⟩
theorem lw_p14 : lw_okq (⟨"CutoffMill$Rings", "placeModules", "(II)V"⟩, 7) := ⟨⟨by decide +kernel, by decide +kernel⟩, List.mem_of_getElem? (i := 94) (by decide +kernel), List.mem_of_getElem? (i := 486) (by decide +kernel), List.mem_of_getElem? (i := 487) (by decide +kernel)⟩
theorem lw_p15 : lw_okq (⟨"CutoffMill$Works", "firstUnbuilt", "(I)I"⟩, 8) := ⟨⟨by decide +kernel, by decide +kernel⟩, List.mem_of_getElem? (i := 130) (by decide +kernel), List.mem_of_getElem? (i := 517) (by decide +kernel), List.mem_of_getElem? (i := 518) (by decide +kernel)⟩
def lw_privs_1 : List (MethodName × Nat) := [(⟨"CutoffMill$Result", "setUnbuilt", "(I)V"⟩, 10), (⟨"java/lang/Throwable", "fillInStackTrace", "(I)Ljava/lang/Throwable;"⟩, 6), (⟨"CutoffMill", "settle", "()V"⟩, 11), (⟨"CutoffMill$Names", "settleImports", "()V"⟩, 8), (⟨"CutoffMill$Names", "settleImport", "(II)V"⟩, 8), (⟨"CutoffMill$Names", "settleOutside", "()V"⟩, 8), (⟨"CutoffMill$Names", "lookedUp", "(I)I"⟩, 8), (⟨"CutoffMill$Names", "broughtTo", "(III)I"⟩, 8), (⟨"CutoffMill$Names", "wantReferences", "(I)V"⟩, 8), (⟨"CutoffMill$Names", "want", "(II)V"⟩, 8), (⟨"CutoffMill$Rings", "settleLeaning", "()V"⟩, 7), (⟨"CutoffMill$Rings", "ringAround", "(I)I"⟩, 7), (⟨"CutoffMill$Rings", "settleOrder", "()V"⟩, 7), (⟨"CutoffMill$Rings", "nextBehind", "(I)I"⟩, 7), (⟨"CutoffMill$Rings", "placeModules", "(II)V"⟩, 7), (⟨"CutoffMill$Works", "firstUnbuilt", "(I)I"⟩, 8)]
theorem lw_r1 : ∀ q ∈ lw_privs_1, lw_okq q := List.forall_mem_cons.mpr ⟨lw_p0, List.forall_mem_cons.mpr ⟨lw_p1, List.forall_mem_cons.mpr ⟨lw_p2, List.forall_mem_cons.mpr ⟨lw_p3, List.forall_mem_cons.mpr ⟨lw_p4, List.forall_mem_cons.mpr ⟨lw_p5, List.forall_mem_cons.mpr ⟨lw_p6, List.forall_mem_cons.mpr ⟨lw_p7, List.forall_mem_cons.mpr ⟨lw_p8, List.forall_mem_cons.mpr ⟨lw_p9, List.forall_mem_cons.mpr ⟨lw_p10, List.forall_mem_cons.mpr ⟨lw_p11, List.forall_mem_cons.mpr ⟨lw_p12, List.forall_mem_cons.mpr ⟨lw_p13, List.forall_mem_cons.mpr ⟨lw_p14, List.forall_mem_cons.mpr ⟨lw_p15, fun _ h => absurd h List.not_mem_nil⟩⟩⟩⟩⟩⟩⟩⟩⟩⟩⟩⟩⟩⟩⟩⟩
theorem lw_p16 : lw_okq (⟨"CutoffMill$Works", "wasInOtherRing", "(I)Z"⟩, 8) := ⟨⟨by decide +kernel, by decide +kernel⟩, List.mem_of_getElem? (i := 130) (by decide +kernel), List.mem_of_getElem? (i := 522) (by decide +kernel), List.mem_of_getElem? (i := 523) (by decide +kernel)⟩
theorem lw_p17 : lw_okq (⟨"CutoffMill$Works", "firstOtherText", "(LCutoffMill$Result;)I"⟩, 8) := ⟨⟨by decide +kernel, by decide +kernel⟩, List.mem_of_getElem? (i := 130) (by decide +kernel), List.mem_of_getElem? (i := 533) (by decide +kernel), List.mem_of_getElem? (i := 534) (by decide +kernel)⟩
theorem lw_p18 : lw_okq (⟨"CutoffMill$Works", "answerTo", "(II)J"⟩, 8) := ⟨⟨by decide +kernel, by decide +kernel⟩, List.mem_of_getElem? (i := 130) (by decide +kernel), List.mem_of_getElem? (i := 547) (by decide +kernel), List.mem_of_getElem? (i := 548) (by decide +kernel)⟩
theorem lw_p19 : lw_okq (⟨"CutoffMill$Works", "placeInStore", "(I)I"⟩, 8) := ⟨⟨by decide +kernel, by decide +kernel⟩, List.mem_of_getElem? (i := 130) (by decide +kernel), List.mem_of_getElem? (i := 555) (by decide +kernel), List.mem_of_getElem? (i := 556) (by decide +kernel)⟩
theorem lw_p20 : lw_okq (⟨"CutoffMill$Store", "takeOut", "(I)V"⟩, 2) := ⟨⟨by decide +kernel, by decide +kernel⟩, List.mem_of_getElem? (i := 138) (by decide +kernel), List.mem_of_getElem? (i := 563) (by decide +kernel), List.mem_of_getElem? (i := 564) (by decide +kernel)⟩
theorem lw_p21 : lw_okq (⟨"CutoffMill$Works", "freeResult", "()LCutoffMill$Result;"⟩, 8) := ⟨⟨by decide +kernel, by decide +kernel⟩, List.mem_of_getElem? (i := 130) (by decide +kernel), List.mem_of_getElem? (i := 571) (by decide +kernel), List.mem_of_getElem? (i := 572) (by decide +kernel)⟩
theorem lw_p22 : lw_okq (⟨"CutoffMill$Works", "isHeld", "(LCutoffMill$Result;)Z"⟩, 8) := ⟨⟨by decide +kernel, by decide +kernel⟩, List.mem_of_getElem? (i := 130) (by decide +kernel), List.mem_of_getElem? (i := 575) (by decide +kernel), List.mem_of_getElem? (i := 576) (by decide +kernel)⟩
theorem lw_p23 : lw_okq (⟨"CutoffMill$Works", "noteAnswers", "(LCutoffMill$Result;)V"⟩, 8) := ⟨⟨by decide +kernel, by decide +kernel⟩, List.mem_of_getElem? (i := 130) (by decide +kernel), List.mem_of_getElem? (i := 598) (by decide +kernel), List.mem_of_getElem? (i := 599) (by decide +kernel)⟩
theorem lw_p24 : lw_okq (⟨"CutoffMill$Maker", "findMembers", "(LCutoffMill$Result;)V"⟩, 8) := ⟨⟨by decide +kernel, by decide +kernel⟩, List.mem_of_getElem? (i := 223) (by decide +kernel), List.mem_of_getElem? (i := 611) (by decide +kernel), List.mem_of_getElem? (i := 612) (by decide +kernel)⟩
theorem lw_p25 : lw_okq (⟨"CutoffMill$Maker", "targetOf", "(II)I"⟩, 8) := ⟨⟨by decide +kernel, by decide +kernel⟩, List.mem_of_getElem? (i := 223) (by decide +kernel), List.mem_of_getElem? (i := 620) (by decide +kernel), List.mem_of_getElem? (i := 621) (by decide +kernel)⟩
theorem lw_p26 : lw_okq (⟨"CutoffMill$Maker", "findDirectFaults", "(LCutoffMill$Result;)V"⟩, 8) := ⟨⟨by decide +kernel, by decide +kernel⟩, List.mem_of_getElem? (i := 223) (by decide +kernel), List.mem_of_getElem? (i := 624) (by decide +kernel), List.mem_of_getElem? (i := 625) (by decide +kernel)⟩
theorem lw_p27 : lw_okq (⟨"CutoffMill$Maker", "directFault", "(IZ)I"⟩, 8) := ⟨⟨by decide +kernel, by decide +kernel⟩, List.mem_of_getElem? (i := 223) (by decide +kernel), List.mem_of_getElem? (i := 631) (by decide +kernel), List.mem_of_getElem? (i := 632) (by decide +kernel)⟩
theorem lw_p28 : lw_okq (⟨"CutoffMill$Maker", "comesBack", "(I)Z"⟩, 8) := ⟨⟨by decide +kernel, by decide +kernel⟩, List.mem_of_getElem? (i := 223) (by decide +kernel), List.mem_of_getElem? (i := 635) (by decide +kernel), List.mem_of_getElem? (i := 636) (by decide +kernel)⟩
theorem lw_p29 : lw_okq (⟨"CutoffMill$Maker", "spreadFaults", "(LCutoffMill$Result;)V"⟩, 8) := ⟨⟨by decide +kernel, by decide +kernel⟩, List.mem_of_getElem? (i := 223) (by decide +kernel), List.mem_of_getElem? (i := 639) (by decide +kernel), List.mem_of_getElem? (i := 640) (by decide +kernel)⟩
theorem lw_p30 : lw_okq (⟨"CutoffMill$Maker", "isFaulty", "(I)Z"⟩, 8) := ⟨⟨by decide +kernel, by decide +kernel⟩, List.mem_of_getElem? (i := 223) (by decide +kernel), List.mem_of_getElem? (i := 643) (by decide +kernel), List.mem_of_getElem? (i := 644) (by decide +kernel)⟩
theorem lw_p31 : lw_okq (⟨"CutoffMill$Maker", "findPlain", "(LCutoffMill$Result;)V"⟩, 8) := ⟨⟨by decide +kernel, by decide +kernel⟩, List.mem_of_getElem? (i := 223) (by decide +kernel), List.mem_of_getElem? (i := 647) (by decide +kernel), List.mem_of_getElem? (i := 648) (by decide +kernel)⟩
def lw_privs_2 : List (MethodName × Nat) := [(⟨"CutoffMill$Works", "wasInOtherRing", "(I)Z"⟩, 8), (⟨"CutoffMill$Works", "firstOtherText", "(LCutoffMill$Result;)I"⟩, 8), (⟨"CutoffMill$Works", "answerTo", "(II)J"⟩, 8), (⟨"CutoffMill$Works", "placeInStore", "(I)I"⟩, 8), (⟨"CutoffMill$Store", "takeOut", "(I)V"⟩, 2), (⟨"CutoffMill$Works", "freeResult", "()LCutoffMill$Result;"⟩, 8), (⟨"CutoffMill$Works", "isHeld", "(LCutoffMill$Result;)Z"⟩, 8), (⟨"CutoffMill$Works", "noteAnswers", "(LCutoffMill$Result;)V"⟩, 8), (⟨"CutoffMill$Maker", "findMembers", "(LCutoffMill$Result;)V"⟩, 8), (⟨"CutoffMill$Maker", "targetOf", "(II)I"⟩, 8), (⟨"CutoffMill$Maker", "findDirectFaults", "(LCutoffMill$Result;)V"⟩, 8), (⟨"CutoffMill$Maker", "directFault", "(IZ)I"⟩, 8), (⟨"CutoffMill$Maker", "comesBack", "(I)Z"⟩, 8), (⟨"CutoffMill$Maker", "spreadFaults", "(LCutoffMill$Result;)V"⟩, 8), (⟨"CutoffMill$Maker", "isFaulty", "(I)Z"⟩, 8), (⟨"CutoffMill$Maker", "findPlain", "(LCutoffMill$Result;)V"⟩, 8)]
theorem lw_r2 : ∀ q ∈ lw_privs_2, lw_okq q := List.forall_mem_cons.mpr ⟨lw_p16, List.forall_mem_cons.mpr ⟨lw_p17, List.forall_mem_cons.mpr ⟨lw_p18, List.forall_mem_cons.mpr ⟨lw_p19, List.forall_mem_cons.mpr ⟨lw_p20, List.forall_mem_cons.mpr ⟨lw_p21, List.forall_mem_cons.mpr ⟨lw_p22, List.forall_mem_cons.mpr ⟨lw_p23, List.forall_mem_cons.mpr ⟨lw_p24, List.forall_mem_cons.mpr ⟨lw_p25, List.forall_mem_cons.mpr ⟨lw_p26, List.forall_mem_cons.mpr ⟨lw_p27, List.forall_mem_cons.mpr ⟨lw_p28, List.forall_mem_cons.mpr ⟨lw_p29, List.forall_mem_cons.mpr ⟨lw_p30, List.forall_mem_cons.mpr ⟨lw_p31, fun _ h => absurd h List.not_mem_nil⟩⟩⟩⟩⟩⟩⟩⟩⟩⟩⟩⟩⟩⟩⟩⟩
theorem lw_p32 : lw_okq (⟨"CutoffMill$Maker", "isNoCall", "(I)Z"⟩, 8) := ⟨⟨by decide +kernel, by decide +kernel⟩, List.mem_of_getElem? (i := 223) (by decide +kernel), List.mem_of_getElem? (i := 651) (by decide +kernel), List.mem_of_getElem? (i := 652) (by decide +kernel)⟩
theorem lw_p33 : lw_okq (⟨"CutoffMill$Maker", "numberWithTargets", "(LCutoffMill$Result;I)I"⟩, 8) := ⟨⟨by decide +kernel, by decide +kernel⟩, List.mem_of_getElem? (i := 223) (by decide +kernel), List.mem_of_getElem? (i := 655) (by decide +kernel), List.mem_of_getElem? (i := 656) (by decide +kernel)⟩
theorem lw_p34 : lw_okq (⟨"CutoffMill$Maker", "findCalls", "(LCutoffMill$Result;)V"⟩, 8) := ⟨⟨by decide +kernel, by decide +kernel⟩, List.mem_of_getElem? (i := 223) (by decide +kernel), List.mem_of_getElem? (i := 662) (by decide +kernel), List.mem_of_getElem? (i := 663) (by decide +kernel)⟩
theorem lw_p35 : lw_okq (⟨"CutoffMill$Maker", "addCall", "(LCutoffMill$Result;II)V"⟩, 8) := ⟨⟨by decide +kernel, by decide +kernel⟩, List.mem_of_getElem? (i := 223) (by decide +kernel), List.mem_of_getElem? (i := 666) (by decide +kernel), List.mem_of_getElem? (i := 667) (by decide +kernel)⟩
theorem lw_p36 : lw_okq (⟨"CutoffMill$Maker", "tellAnswers", "(LCutoffMill$Result;)V"⟩, 8) := ⟨⟨by decide +kernel, by decide +kernel⟩, List.mem_of_getElem? (i := 223) (by decide +kernel), List.mem_of_getElem? (i := 670) (by decide +kernel), List.mem_of_getElem? (i := 671) (by decide +kernel)⟩
theorem lw_p37 : lw_okq (⟨"CutoffMill", "countRenewal", "(IZ)V"⟩, 11) := ⟨⟨by decide +kernel, by decide +kernel⟩, List.mem_of_getElem? (i := 22) (by decide +kernel), List.mem_of_getElem? (i := 676) (by decide +kernel), List.mem_of_getElem? (i := 677) (by decide +kernel)⟩
theorem lw_p38 : lw_okq (⟨"CutoffMill", "checkModule", "(I)V"⟩, 11) := ⟨⟨by decide +kernel, by decide +kernel⟩, List.mem_of_getElem? (i := 22) (by decide +kernel), List.mem_of_getElem? (i := 685) (by decide +kernel), List.mem_of_getElem? (i := 686) (by decide +kernel)⟩
theorem lw_p39 : lw_okq (⟨"CutoffMill", "valueOf", "(I)I"⟩, 11) := ⟨⟨by decide +kernel, by decide +kernel⟩, List.mem_of_getElem? (i := 22) (by decide +kernel), List.mem_of_getElem? (i := 705) (by decide +kernel), List.mem_of_getElem? (i := 706) (by decide +kernel)⟩
theorem lw_p40 : lw_okq (⟨"CutoffMill", "openCall", "(III)I"⟩, 11) := ⟨⟨by decide +kernel, by decide +kernel⟩, List.mem_of_getElem? (i := 22) (by decide +kernel), List.mem_of_getElem? (i := 714) (by decide +kernel), List.mem_of_getElem? (i := 715) (by decide +kernel)⟩
theorem lw_p41 : lw_okq (⟨"CutoffMill$Works", "staleModules", "()I"⟩, 8) := ⟨⟨by decide +kernel, by decide +kernel⟩, List.mem_of_getElem? (i := 130) (by decide +kernel), List.mem_of_getElem? (i := 780) (by decide +kernel), List.mem_of_getElem? (i := 781) (by decide +kernel)⟩
theorem lw_p42 : lw_okq (⟨"CutoffMill", "digestOfModule", "(JI)J"⟩, 11) := ⟨⟨by decide +kernel, by decide +kernel⟩, List.mem_of_getElem? (i := 22) (by decide +kernel), List.mem_of_getElem? (i := 795) (by decide +kernel), List.mem_of_getElem? (i := 796) (by decide +kernel)⟩
theorem lw_p43 : lw_okq (⟨"CutoffMill", "digestOfName", "(JII)J"⟩, 11) := ⟨⟨by decide +kernel, by decide +kernel⟩, List.mem_of_getElem? (i := 22) (by decide +kernel), List.mem_of_getElem? (i := 828) (by decide +kernel), List.mem_of_getElem? (i := 829) (by decide +kernel)⟩
theorem lw_p44 : lw_okq (⟨"CutoffMill", "slotOfFault", "(I)I"⟩, 11) := ⟨⟨by decide +kernel, by decide +kernel⟩, List.mem_of_getElem? (i := 22) (by decide +kernel), List.mem_of_getElem? (i := 856) (by decide +kernel), List.mem_of_getElem? (i := 857) (by decide +kernel)⟩
def lw_privs_3 : List (MethodName × Nat) := [(⟨"CutoffMill$Maker", "isNoCall", "(I)Z"⟩, 8), (⟨"CutoffMill$Maker", "numberWithTargets", "(LCutoffMill$Result;I)I"⟩, 8), (⟨"CutoffMill$Maker", "findCalls", "(LCutoffMill$Result;)V"⟩, 8), (⟨"CutoffMill$Maker", "addCall", "(LCutoffMill$Result;II)V"⟩, 8), (⟨"CutoffMill$Maker", "tellAnswers", "(LCutoffMill$Result;)V"⟩, 8), (⟨"CutoffMill", "countRenewal", "(IZ)V"⟩, 11), (⟨"CutoffMill", "checkModule", "(I)V"⟩, 11), (⟨"CutoffMill", "valueOf", "(I)I"⟩, 11), (⟨"CutoffMill", "openCall", "(III)I"⟩, 11), (⟨"CutoffMill$Works", "staleModules", "()I"⟩, 8), (⟨"CutoffMill", "digestOfModule", "(JI)J"⟩, 11), (⟨"CutoffMill", "digestOfName", "(JII)J"⟩, 11), (⟨"CutoffMill", "slotOfFault", "(I)I"⟩, 11)]
theorem lw_r3 : ∀ q ∈ lw_privs_3, lw_okq q := List.forall_mem_cons.mpr ⟨lw_p32, List.forall_mem_cons.mpr ⟨lw_p33, List.forall_mem_cons.mpr ⟨lw_p34, List.forall_mem_cons.mpr ⟨lw_p35, List.forall_mem_cons.mpr ⟨lw_p36, List.forall_mem_cons.mpr ⟨lw_p37, List.forall_mem_cons.mpr ⟨lw_p38, List.forall_mem_cons.mpr ⟨lw_p39, List.forall_mem_cons.mpr ⟨lw_p40, List.forall_mem_cons.mpr ⟨lw_p41, List.forall_mem_cons.mpr ⟨lw_p42, List.forall_mem_cons.mpr ⟨lw_p43, List.forall_mem_cons.mpr ⟨lw_p44, fun _ h => absurd h List.not_mem_nil⟩⟩⟩⟩⟩⟩⟩⟩⟩⟩⟩⟩⟩
def lw_privs : List (MethodName × Nat) := lw_privs_1 ++ (lw_privs_2 ++ (lw_privs_3))
def lw_tbl : List Cond := k2_sels lw_privs ++ tables_1
theorem lw_privs_ok : ∀ q ∈ lw_privs, lw_okq q := by
  show ∀ q ∈ lw_privs_1 ++ (lw_privs_2 ++ (lw_privs_3)), lw_okq q
  exact List.forall_mem_append.mpr ⟨lw_r1, List.forall_mem_append.mpr ⟨lw_r2, lw_r3⟩⟩
-- ===== end of PART A; then your names; then what follows =====
theorem goodIn_r {big : List Cond} (ws : List Cond) (ps : List Nat) (hp : ws = ps.filterMap (fun i => big[i]?)) (h : ws.all goodWord = true) : GoodIn big ws := by
  intro w hw
  have h1 := List.all_eq_true.mp h w hw
  rw [hp] at hw
  obtain ⟨i, -, hi⟩ := List.mem_filterMap.mp hw
  have hm : w ∈ big := by first | exact List.mem_of_getElem? hi | exact List.getElem?_mem hi
  exact ⟨hm, good_of_word h1⟩
theorem goodIn_app {big a b : List Cond} (ha : GoodIn big a) (hb : GoodIn big b) : GoodIn big (a ++ b) := fun w h => (List.mem_append.mp h).elim (ha w) (hb w)
theorem goodIn_ca {big a b : List Cond} {c : Cond} (ha : GoodIn big (c :: a)) (hb : GoodIn big b) : GoodIn big (c :: (a ++ b)) := fun w h => (List.mem_cons.mp h).elim (fun e => ha w (List.mem_cons.mpr (Or.inl e))) (fun h => (List.mem_append.mp h).elim (fun h => ha w (List.mem_cons.mpr (Or.inr h))) (hb w))
theorem goodIn_sub {big ws : List Cond} (hm : ∀ w ∈ ws, w ∈ big) (h : ws.all goodWord = true) : GoodIn big ws := fun w hw => ⟨hm w hw, good_of_word (List.all_eq_true.mp h w hw)⟩
def RX0 : String := "CutoffMill$Answer"
def TX0 : u_T := fun k => match k with
  | _ => ("", "", "", false)
def tyX0 : Nat → FieldType := fun k => match k with
  | _ => .int
abbrev wsX00 : List Cond := u_ws RX0 TX0 0
theorem nmX0 : ∀ a, a < 0 → ∀ b, b < 0 → a ≠ b → (TX0 a).2.1 ≠ (TX0 b).2.1 := by decide +kernel
theorem tyX0_ok : ∀ k, k < 0 → parseFieldDescriptor (TX0 k).2.2.1 = some (tyX0 k) := by decide +kernel
abbrev cX0_of : ByteArray := prog_2_method_2_code
def yX0_of : MethodName := ⟨RX0, "of", "(IZZZI)J"⟩
abbrev cX0_trait : ByteArray := prog_2_method_3_code
def yX0_trait : MethodName := ⟨RX0, "trait", "(JI)I"⟩
def RX1 : String := "CutoffMill$Declaration"
def TX1 : u_T := fun k => match k with
  | _ => ("", "", "", false)
def tyX1 : Nat → FieldType := fun k => match k with
  | _ => .int
abbrev wsX10 : List Cond := u_ws RX1 TX1 0
theorem nmX1 : ∀ a, a < 0 → ∀ b, b < 0 → a ≠ b → (TX1 a).2.1 ≠ (TX1 b).2.1 := by decide +kernel
theorem tyX1_ok : ∀ k, k < 0 → parseFieldDescriptor (TX1 k).2.2.1 = some (tyX1 k) := by decide +kernel
abbrev cX1_of : ByteArray := prog_3_method_2_code
def yX1_of : MethodName := ⟨RX1, "of", "(IZIII)I"⟩
abbrev cX1_withNumber : ByteArray := prog_3_method_3_code
def yX1_withNumber : MethodName := ⟨RX1, "withNumber", "(II)I"⟩
abbrev cX1_isProcedure : ByteArray := prog_3_method_4_code
def yX1_isProcedure : MethodName := ⟨RX1, "isProcedure", "(I)Z"⟩
abbrev cX1_isPublic : ByteArray := prog_3_method_5_code
def yX1_isPublic : MethodName := ⟨RX1, "isPublic", "(I)Z"⟩
abbrev cX1_numberOf : ByteArray := prog_3_method_6_code
def yX1_numberOf : MethodName := ⟨RX1, "numberOf", "(I)I"⟩
abbrev cX1_reference : ByteArray := prog_3_method_7_code
def yX1_reference : MethodName := ⟨RX1, "reference", "(II)I"⟩
def RX2 : String := "CutoffMill$Import"
def TX2 : u_T := fun k => match k with
  | _ => ("", "", "", false)
def tyX2 : Nat → FieldType := fun k => match k with
  | _ => .int
abbrev wsX20 : List Cond := u_ws RX2 TX2 0
theorem nmX2 : ∀ a, a < 0 → ∀ b, b < 0 → a ≠ b → (TX2 a).2.1 ≠ (TX2 b).2.1 := by decide +kernel
theorem tyX2_ok : ∀ k, k < 0 → parseFieldDescriptor (TX2 k).2.2.1 = some (tyX2 k) := by decide +kernel
abbrev cX2_of : ByteArray := prog_4_method_2_code
def yX2_of : MethodName := ⟨RX2, "of", "(IIIZ)I"⟩
abbrev cX2_isOfAll : ByteArray := prog_4_method_3_code
def yX2_isOfAll : MethodName := ⟨RX2, "isOfAll", "(I)Z"⟩
abbrev cX2_isAgain : ByteArray := prog_4_method_4_code
def yX2_isAgain : MethodName := ⟨RX2, "isAgain", "(I)Z"⟩
abbrev cX2_from : ByteArray := prog_4_method_5_code
def yX2_from : MethodName := ⟨RX2, "from", "(I)I"⟩
abbrev cX2_under : ByteArray := prog_4_method_6_code
def yX2_under : MethodName := ⟨RX2, "under", "(I)I"⟩
abbrev cX2_source : ByteArray := prog_4_method_7_code
def yX2_source : MethodName := ⟨RX2, "source", "(I)I"⟩
def RX3 : String := "CutoffMill$Maker"
def TX3 : u_T := fun k => match k with
  | 0 => ("CutoffMill$Maker", "names", "LCutoffMill$Names;", true)
  | 1 => ("CutoffMill$Maker", "states", "[LCutoffMill$Result;", true)
  | 2 => ("CutoffMill$Maker", "members", "[I", true)
  | 3 => ("CutoffMill$Maker", "memberCount", "I", false)
  | 4 => ("CutoffMill$Maker", "targets", "[I", true)
  | 5 => ("CutoffMill$Maker", "isLink", "[Z", true)
  | 6 => ("CutoffMill$Maker", "walk", "[I", true)
  | _ => ("CutoffMill$Maker", "isWalked", "[Z", true)
def tyX3 : Nat → FieldType := fun k => match k with
  | 0 => .object "CutoffMill$Names"
  | 1 => .array (.object "CutoffMill$Result")
  | 2 => .array .int
  | 3 => .int
  | 4 => .array .int
  | 5 => .array .boolean
  | 6 => .array .int
  | _ => .array .boolean
abbrev wsX30 : List Cond := u_ws RX3 TX3 8
theorem nmX3 : ∀ a, a < 8 → ∀ b, b < 8 → a ≠ b → (TX3 a).2.1 ≠ (TX3 b).2.1 := by decide +kernel
theorem tyX3_ok : ∀ k, k < 8 → parseFieldDescriptor (TX3 k).2.2.1 = some (tyX3 k) := by decide +kernel
abbrev cX3_init : ByteArray := prog_5_method_1_code
def yX3_init : MethodName := ⟨RX3, "<init>", "(LCutoffMill$Names;)V"⟩
abbrev cX3_makeStates : ByteArray := prog_5_method_2_code
def yX3_makeStates : MethodName := ⟨RX3, "makeStates", "(LCutoffMill$Result;[LCutoffMill$Result;)V"⟩
abbrev cX3_findMembers : ByteArray := prog_5_method_3_code
def yX3_findMembers : MethodName := ⟨RX3, "findMembers", "(LCutoffMill$Result;)V"⟩
abbrev cX3_targetOf : ByteArray := prog_5_method_4_code
def yX3_targetOf : MethodName := ⟨RX3, "targetOf", "(II)I"⟩
abbrev cX3_findDirectFaults : ByteArray := prog_5_method_5_code
def yX3_findDirectFaults : MethodName := ⟨RX3, "findDirectFaults", "(LCutoffMill$Result;)V"⟩
abbrev cX3_directFault : ByteArray := prog_5_method_6_code
def yX3_directFault : MethodName := ⟨RX3, "directFault", "(IZ)I"⟩
abbrev cX3_comesBack : ByteArray := prog_5_method_7_code
def yX3_comesBack : MethodName := ⟨RX3, "comesBack", "(I)Z"⟩
abbrev cX3_spreadFaults : ByteArray := prog_5_method_8_code
def yX3_spreadFaults : MethodName := ⟨RX3, "spreadFaults", "(LCutoffMill$Result;)V"⟩
abbrev cX3_isFaulty : ByteArray := prog_5_method_9_code
def yX3_isFaulty : MethodName := ⟨RX3, "isFaulty", "(I)Z"⟩
abbrev cX3_findPlain : ByteArray := prog_5_method_10_code
def yX3_findPlain : MethodName := ⟨RX3, "findPlain", "(LCutoffMill$Result;)V"⟩
abbrev cX3_isNoCall : ByteArray := prog_5_method_11_code
def yX3_isNoCall : MethodName := ⟨RX3, "isNoCall", "(I)Z"⟩
abbrev cX3_numberWithTargets : ByteArray := prog_5_method_12_code
def yX3_numberWithTargets : MethodName := ⟨RX3, "numberWithTargets", "(LCutoffMill$Result;I)I"⟩
abbrev cX3_findCalls : ByteArray := prog_5_method_13_code
def yX3_findCalls : MethodName := ⟨RX3, "findCalls", "(LCutoffMill$Result;)V"⟩
abbrev cX3_addCall : ByteArray := prog_5_method_14_code
def yX3_addCall : MethodName := ⟨RX3, "addCall", "(LCutoffMill$Result;II)V"⟩
abbrev cX3_tellAnswers : ByteArray := prog_5_method_15_code
def yX3_tellAnswers : MethodName := ⟨RX3, "tellAnswers", "(LCutoffMill$Result;)V"⟩
def RX4 : String := "CutoffMill$Names"
def TX4 : u_T := fun k => match k with
  | 0 => ("CutoffMill$Names", "texts", "LCutoffMill$Texts;", true)
  | 1 => ("CutoffMill$Names", "outside", "[I", true)
  | 2 => ("CutoffMill$Names", "within", "[I", true)
  | 3 => ("CutoffMill$Names", "wanted", "[I", true)
  | 4 => ("CutoffMill$Names", "sources", "[I", true)
  | 5 => ("CutoffMill$Names", "sourcesAgain", "[I", true)
  | 6 => ("CutoffMill$Names", "allFrom", "[I", true)
  | _ => ("CutoffMill$Names", "allFromAgain", "[I", true)
def tyX4 : Nat → FieldType := fun k => match k with
  | 0 => .object "CutoffMill$Texts"
  | 1 => .array .int
  | 2 => .array .int
  | 3 => .array .int
  | 4 => .array .int
  | 5 => .array .int
  | 6 => .array .int
  | _ => .array .int
abbrev wsX40 : List Cond := u_ws RX4 TX4 8
theorem nmX4 : ∀ a, a < 8 → ∀ b, b < 8 → a ≠ b → (TX4 a).2.1 ≠ (TX4 b).2.1 := by decide +kernel
theorem tyX4_ok : ∀ k, k < 8 → parseFieldDescriptor (TX4 k).2.2.1 = some (tyX4 k) := by decide +kernel
abbrev cX4_init : ByteArray := prog_6_method_1_code
def yX4_init : MethodName := ⟨RX4, "<init>", "(LCutoffMill$Texts;)V"⟩
abbrev cX4_settle : ByteArray := prog_6_method_2_code
def yX4_settle : MethodName := ⟨RX4, "settle", "()V"⟩
abbrev cX4_settleImports : ByteArray := prog_6_method_3_code
def yX4_settleImports : MethodName := ⟨RX4, "settleImports", "()V"⟩
abbrev cX4_settleImport : ByteArray := prog_6_method_4_code
def yX4_settleImport : MethodName := ⟨RX4, "settleImport", "(II)V"⟩
abbrev cX4_settleOutside : ByteArray := prog_6_method_5_code
def yX4_settleOutside : MethodName := ⟨RX4, "settleOutside", "()V"⟩
abbrev cX4_lookedUp : ByteArray := prog_6_method_6_code
def yX4_lookedUp : MethodName := ⟨RX4, "lookedUp", "(I)I"⟩
abbrev cX4_broughtTo : ByteArray := prog_6_method_7_code
def yX4_broughtTo : MethodName := ⟨RX4, "broughtTo", "(III)I"⟩
abbrev cX4_joined : ByteArray := prog_6_method_8_code
def yX4_joined : MethodName := ⟨RX4, "joined", "(II)I"⟩
abbrev cX4_wantReferences : ByteArray := prog_6_method_9_code
def yX4_wantReferences : MethodName := ⟨RX4, "wantReferences", "(I)V"⟩
abbrev cX4_want : ByteArray := prog_6_method_10_code
def yX4_want : MethodName := ⟨RX4, "want", "(II)V"⟩
abbrev cX4_wantedBy : ByteArray := prog_6_method_11_code
def yX4_wantedBy : MethodName := ⟨RX4, "wantedBy", "(I)I"⟩
abbrev cX4_isWanted : ByteArray := prog_6_method_12_code
def yX4_isWanted : MethodName := ⟨RX4, "isWanted", "(II)Z"⟩
def RX5 : String := "CutoffMill$Result"
def TX5 : u_T := fun k => match k with
  | 0 => ("CutoffMill$Result", "modules", "I", false)
  | 1 => ("CutoffMill$Result", "texts", "LCutoffMill$Texts;", true)
  | 2 => ("CutoffMill$Result", "noted", "[J", true)
  | 3 => ("CutoffMill$Result", "answers", "[J", true)
  | 4 => ("CutoffMill$Result", "faults", "[I", true)
  | 5 => ("CutoffMill$Result", "isProcedure", "[Z", true)
  | 6 => ("CutoffMill$Result", "isPlain", "[Z", true)
  | 7 => ("CutoffMill$Result", "numbers", "[I", true)
  | 8 => ("CutoffMill$Result", "firstCalls", "[I", true)
  | _ => ("CutoffMill$Result", "secondCalls", "[I", true)
def tyX5 : Nat → FieldType := fun k => match k with
  | 0 => .int
  | 1 => .object "CutoffMill$Texts"
  | 2 => .array .long
  | 3 => .array .long
  | 4 => .array .int
  | 5 => .array .boolean
  | 6 => .array .boolean
  | 7 => .array .int
  | 8 => .array .int
  | _ => .array .int
abbrev wsX50 : List Cond := u_ws RX5 TX5 10
theorem nmX5 : ∀ a, a < 10 → ∀ b, b < 10 → a ≠ b → (TX5 a).2.1 ≠ (TX5 b).2.1 := by decide +kernel
theorem tyX5_ok : ∀ k, k < 10 → parseFieldDescriptor (TX5 k).2.2.1 = some (tyX5 k) := by decide +kernel
abbrev cX5_init : ByteArray := prog_7_method_1_code
def yX5_init : MethodName := ⟨RX5, "<init>", "()V"⟩
abbrev cX5_begin : ByteArray := prog_7_method_2_code
def yX5_begin : MethodName := ⟨RX5, "begin", "(ILCutoffMill$Texts;)V"⟩
abbrev cX5_setUnbuilt : ByteArray := prog_7_method_3_code
def yX5_setUnbuilt : MethodName := ⟨RX5, "setUnbuilt", "(I)V"⟩
abbrev cX5_callCount : ByteArray := prog_7_method_4_code
def yX5_callCount : MethodName := ⟨RX5, "callCount", "(I)I"⟩
def RX6 : String := "CutoffMill$Rings"
def TX6 : u_T := fun k => match k with
  | 0 => ("CutoffMill$Rings", "texts", "LCutoffMill$Texts;", true)
  | 1 => ("CutoffMill$Rings", "leansOn", "[I", true)
  | 2 => ("CutoffMill$Rings", "reach", "[I", true)
  | 3 => ("CutoffMill$Rings", "ringOf", "[I", true)
  | 4 => ("CutoffMill$Rings", "placeOf", "[I", true)
  | 5 => ("CutoffMill$Rings", "order", "[I", true)
  | _ => ("CutoffMill$Rings", "count", "I", false)
def tyX6 : Nat → FieldType := fun k => match k with
  | 0 => .object "CutoffMill$Texts"
  | 1 => .array .int
  | 2 => .array .int
  | 3 => .array .int
  | 4 => .array .int
  | 5 => .array .int
  | _ => .int
abbrev wsX60 : List Cond := u_ws RX6 TX6 7
theorem nmX6 : ∀ a, a < 7 → ∀ b, b < 7 → a ≠ b → (TX6 a).2.1 ≠ (TX6 b).2.1 := by decide +kernel
theorem tyX6_ok : ∀ k, k < 7 → parseFieldDescriptor (TX6 k).2.2.1 = some (tyX6 k) := by decide +kernel
abbrev cX6_init : ByteArray := prog_8_method_1_code
def yX6_init : MethodName := ⟨RX6, "<init>", "(LCutoffMill$Texts;)V"⟩
abbrev cX6_has : ByteArray := prog_8_method_2_code
def yX6_has : MethodName := ⟨RX6, "has", "(II)Z"⟩
abbrev cX6_smallestOf : ByteArray := prog_8_method_3_code
def yX6_smallestOf : MethodName := ⟨RX6, "smallestOf", "(I)I"⟩
abbrev cX6_settle : ByteArray := prog_8_method_4_code
def yX6_settle : MethodName := ⟨RX6, "settle", "()V"⟩
abbrev cX6_settleLeaning : ByteArray := prog_8_method_5_code
def yX6_settleLeaning : MethodName := ⟨RX6, "settleLeaning", "()V"⟩
abbrev cX6_ringAround : ByteArray := prog_8_method_6_code
def yX6_ringAround : MethodName := ⟨RX6, "ringAround", "(I)I"⟩
abbrev cX6_settleOrder : ByteArray := prog_8_method_7_code
def yX6_settleOrder : MethodName := ⟨RX6, "settleOrder", "()V"⟩
abbrev cX6_nextBehind : ByteArray := prog_8_method_8_code
def yX6_nextBehind : MethodName := ⟨RX6, "nextBehind", "(I)I"⟩
abbrev cX6_placeModules : ByteArray := prog_8_method_9_code
def yX6_placeModules : MethodName := ⟨RX6, "placeModules", "(II)V"⟩
def RX7 : String := "CutoffMill$Store"
def TX7 : u_T := fun k => match k with
  | 0 => ("CutoffMill$Store", "kept", "[LCutoffMill$Result;", true)
  | _ => ("CutoffMill$Store", "count", "I", false)
def tyX7 : Nat → FieldType := fun k => match k with
  | 0 => .array (.object "CutoffMill$Result")
  | _ => .int
abbrev wsX70 : List Cond := u_ws RX7 TX7 2
theorem nmX7 : ∀ a, a < 2 → ∀ b, b < 2 → a ≠ b → (TX7 a).2.1 ≠ (TX7 b).2.1 := by decide +kernel
theorem tyX7_ok : ∀ k, k < 2 → parseFieldDescriptor (TX7 k).2.2.1 = some (tyX7 k) := by decide +kernel
abbrev cX7_init : ByteArray := prog_9_method_1_code
def yX7_init : MethodName := ⟨RX7, "<init>", "(I)V"⟩
abbrev cX7_holds : ByteArray := prog_9_method_2_code
def yX7_holds : MethodName := ⟨RX7, "holds", "(LCutoffMill$Result;)Z"⟩
abbrev cX7_put : ByteArray := prog_9_method_3_code
def yX7_put : MethodName := ⟨RX7, "put", "(LCutoffMill$Result;)V"⟩
abbrev cX7_makeNewest : ByteArray := prog_9_method_4_code
def yX7_makeNewest : MethodName := ⟨RX7, "makeNewest", "(I)V"⟩
abbrev cX7_takeOut : ByteArray := prog_9_method_5_code
def yX7_takeOut : MethodName := ⟨RX7, "takeOut", "(I)V"⟩
def RX8 : String := "CutoffMill$Texts"
def TX8 : u_T := fun k => match k with
  | 0 => ("CutoffMill$Texts", "declarations", "[I", true)
  | 1 => ("CutoffMill$Texts", "imports", "[I", true)
  | 2 => ("CutoffMill$Texts", "importCounts", "[I", true)
  | _ => ("CutoffMill$Texts", "moduleCount", "I", false)
def tyX8 : Nat → FieldType := fun k => match k with
  | 0 => .array .int
  | 1 => .array .int
  | 2 => .array .int
  | _ => .int
abbrev wsX80 : List Cond := u_ws RX8 TX8 4
theorem nmX8 : ∀ a, a < 4 → ∀ b, b < 4 → a ≠ b → (TX8 a).2.1 ≠ (TX8 b).2.1 := by decide +kernel
theorem tyX8_ok : ∀ k, k < 4 → parseFieldDescriptor (TX8 k).2.2.1 = some (tyX8 k) := by decide +kernel
abbrev cX8_init : ByteArray := prog_10_method_1_code
def yX8_init : MethodName := ⟨RX8, "<init>", "()V"⟩
abbrev cX8_isDeclared : ByteArray := prog_10_method_2_code
def yX8_isDeclared : MethodName := ⟨RX8, "isDeclared", "(I)Z"⟩
abbrev cX8_declarationsOf : ByteArray := prog_10_method_3_code
def yX8_declarationsOf : MethodName := ⟨RX8, "declarationsOf", "(I)I"⟩
abbrev cX8_allDeclarations : ByteArray := prog_10_method_4_code
def yX8_allDeclarations : MethodName := ⟨RX8, "allDeclarations", "()I"⟩
abbrev cX8_allImports : ByteArray := prog_10_method_5_code
def yX8_allImports : MethodName := ⟨RX8, "allImports", "()I"⟩
abbrev cX8_importAt : ByteArray := prog_10_method_6_code
def yX8_importAt : MethodName := ⟨RX8, "importAt", "(II)I"⟩
abbrev cX8_addImport : ByteArray := prog_10_method_7_code
def yX8_addImport : MethodName := ⟨RX8, "addImport", "(II)V"⟩
abbrev cX8_removeImport : ByteArray := prog_10_method_8_code
def yX8_removeImport : MethodName := ⟨RX8, "removeImport", "(II)V"⟩
abbrev cX8_isSame : ByteArray := prog_10_method_9_code
def yX8_isSame : MethodName := ⟨RX8, "isSame", "(LCutoffMill$Texts;I)Z"⟩
abbrev cX8_copy : ByteArray := prog_10_method_10_code
def yX8_copy : MethodName := ⟨RX8, "copy", "(LCutoffMill$Texts;)V"⟩
def RX9 : String := "CutoffMill$Works"
def TX9 : u_T := fun k => match k with
  | 0 => ("CutoffMill$Works", "texts", "LCutoffMill$Texts;", true)
  | 1 => ("CutoffMill$Works", "names", "LCutoffMill$Names;", true)
  | 2 => ("CutoffMill$Works", "rings", "LCutoffMill$Rings;", true)
  | 3 => ("CutoffMill$Works", "maker", "LCutoffMill$Maker;", true)
  | 4 => ("CutoffMill$Works", "store", "LCutoffMill$Store;", true)
  | 5 => ("CutoffMill$Works", "last", "[LCutoffMill$Result;", true)
  | 6 => ("CutoffMill$Works", "unbuilt", "LCutoffMill$Result;", true)
  | _ => ("CutoffMill$Works", "pool", "[LCutoffMill$Result;", true)
def tyX9 : Nat → FieldType := fun k => match k with
  | 0 => .object "CutoffMill$Texts"
  | 1 => .object "CutoffMill$Names"
  | 2 => .object "CutoffMill$Rings"
  | 3 => .object "CutoffMill$Maker"
  | 4 => .object "CutoffMill$Store"
  | 5 => .array (.object "CutoffMill$Result")
  | 6 => .object "CutoffMill$Result"
  | _ => .array (.object "CutoffMill$Result")
abbrev wsX90 : List Cond := u_ws RX9 TX9 8
theorem nmX9 : ∀ a, a < 8 → ∀ b, b < 8 → a ≠ b → (TX9 a).2.1 ≠ (TX9 b).2.1 := by decide +kernel
theorem tyX9_ok : ∀ k, k < 8 → parseFieldDescriptor (TX9 k).2.2.1 = some (tyX9 k) := by decide +kernel
abbrev cX9_init : ByteArray := prog_11_method_1_code
def yX9_init : MethodName := ⟨RX9, "<init>", "(LCutoffMill$Texts;LCutoffMill$Names;LCutoffMill$Rings;I)V"⟩
abbrev cX9_startFrom : ByteArray := prog_11_method_2_code
def yX9_startFrom : MethodName := ⟨RX9, "startFrom", "(LCutoffMill$Works;)V"⟩
abbrev cX9_stateOf : ByteArray := prog_11_method_3_code
def yX9_stateOf : MethodName := ⟨RX9, "stateOf", "(I)LCutoffMill$Result;"⟩
abbrev cX9_isFaulty : ByteArray := prog_11_method_4_code
def yX9_isFaulty : MethodName := ⟨RX9, "isFaulty", "(I)Z"⟩
abbrev cX9_faultCount : ByteArray := prog_11_method_5_code
def yX9_faultCount : MethodName := ⟨RX9, "faultCount", "()I"⟩
abbrev cX9_staleCount : ByteArray := prog_11_method_6_code
def yX9_staleCount : MethodName := ⟨RX9, "staleCount", "()I"⟩
abbrev cX9_reasonOf : ByteArray := prog_11_method_7_code
def yX9_reasonOf : MethodName := ⟨RX9, "reasonOf", "(I)I"⟩
abbrev cX9_culpritOf : ByteArray := prog_11_method_8_code
def yX9_culpritOf : MethodName := ⟨RX9, "culpritOf", "(II)I"⟩
abbrev cX9_firstUnbuilt : ByteArray := prog_11_method_9_code
def yX9_firstUnbuilt : MethodName := ⟨RX9, "firstUnbuilt", "(I)I"⟩
abbrev cX9_wasInOtherRing : ByteArray := prog_11_method_10_code
def yX9_wasInOtherRing : MethodName := ⟨RX9, "wasInOtherRing", "(I)Z"⟩
abbrev cX9_firstOtherText : ByteArray := prog_11_method_11_code
def yX9_firstOtherText : MethodName := ⟨RX9, "firstOtherText", "(LCutoffMill$Result;)I"⟩
abbrev cX9_resultOf : ByteArray := prog_11_method_12_code
def yX9_resultOf : MethodName := ⟨RX9, "resultOf", "(I)LCutoffMill$Result;"⟩
abbrev cX9_firstOtherAnswer : ByteArray := prog_11_method_13_code
def yX9_firstOtherAnswer : MethodName := ⟨RX9, "firstOtherAnswer", "(LCutoffMill$Result;)I"⟩
abbrev cX9_answerTo : ByteArray := prog_11_method_14_code
def yX9_answerTo : MethodName := ⟨RX9, "answerTo", "(II)J"⟩
abbrev cX9_renewAll : ByteArray := prog_11_method_15_code
def yX9_renewAll : MethodName := ⟨RX9, "renewAll", "()I"⟩
abbrev cX9_renewRound : ByteArray := prog_11_method_16_code
def yX9_renewRound : MethodName := ⟨RX9, "renewRound", "(I)I"⟩
abbrev cX9_staleModules : ByteArray := prog_11_method_17_code
def yX9_staleModules : MethodName := ⟨RX9, "staleModules", "()I"⟩
abbrev cX9_renew : ByteArray := prog_11_method_18_code
def yX9_renew : MethodName := ⟨RX9, "renew", "(I)Z"⟩
abbrev cX9_placeInStore : ByteArray := prog_11_method_19_code
def yX9_placeInStore : MethodName := ⟨RX9, "placeInStore", "(I)I"⟩
abbrev cX9_freeResult : ByteArray := prog_11_method_20_code
def yX9_freeResult : MethodName := ⟨RX9, "freeResult", "()LCutoffMill$Result;"⟩
abbrev cX9_isHeld : ByteArray := prog_11_method_21_code
def yX9_isHeld : MethodName := ⟨RX9, "isHeld", "(LCutoffMill$Result;)Z"⟩
abbrev cX9_noteAnswers : ByteArray := prog_11_method_22_code
def yX9_noteAnswers : MethodName := ⟨RX9, "noteAnswers", "(LCutoffMill$Result;)V"⟩
def RX10 : String := "CutoffMill"
def TX10 : u_T := fun k => match k with
  | 0 => ("CutoffMill", "texts", "LCutoffMill$Texts;", true)
  | 1 => ("CutoffMill", "names", "LCutoffMill$Names;", true)
  | 2 => ("CutoffMill", "rings", "LCutoffMill$Rings;", true)
  | 3 => ("CutoffMill", "works", "LCutoffMill$Works;", true)
  | 4 => ("CutoffMill", "trial", "LCutoffMill$Works;", true)
  | 5 => ("CutoffMill", "openCalls", "[I", true)
  | 6 => ("CutoffMill", "builtTimes", "[I", true)
  | 7 => ("CutoffMill", "fetchedTimes", "[I", true)
  | 8 => ("CutoffMill", "ringsBuilt", "I", false)
  | 9 => ("CutoffMill", "ringsFetched", "I", false)
  | _ => ("CutoffMill", "builds", "I", false)
def tyX10 : Nat → FieldType := fun k => match k with
  | 0 => .object "CutoffMill$Texts"
  | 1 => .object "CutoffMill$Names"
  | 2 => .object "CutoffMill$Rings"
  | 3 => .object "CutoffMill$Works"
  | 4 => .object "CutoffMill$Works"
  | 5 => .array .int
  | 6 => .array .int
  | 7 => .array .int
  | 8 => .int
  | 9 => .int
  | _ => .int
abbrev wsX100 : List Cond := u_ws RX10 TX10 11
theorem nmX10 : ∀ a, a < 11 → ∀ b, b < 11 → a ≠ b → (TX10 a).2.1 ≠ (TX10 b).2.1 := by decide +kernel
theorem tyX10_ok : ∀ k, k < 11 → parseFieldDescriptor (TX10 k).2.2.1 = some (tyX10 k) := by decide +kernel
abbrev cX10_init : ByteArray := prog_1_method_1_code
def yX10_init : MethodName := ⟨RX10, "<init>", "()V"⟩
abbrev cX10_module : ByteArray := prog_1_method_2_code
def yX10_module : MethodName := ⟨RX10, "module", "()I"⟩
abbrev cX10_declare : ByteArray := prog_1_method_3_code
def yX10_declare : MethodName := ⟨RX10, "declare", "(IIIZIII)I"⟩
abbrev cX10_drop : ByteArray := prog_1_method_4_code
def yX10_drop : MethodName := ⟨RX10, "drop", "(II)Z"⟩
abbrev cX10_bring : ByteArray := prog_1_method_5_code
def yX10_bring : MethodName := ⟨RX10, "bring", "(IIIIZ)I"⟩
abbrev cX10_leave : ByteArray := prog_1_method_6_code
def yX10_leave : MethodName := ⟨RX10, "leave", "(II)I"⟩
abbrev cX10_ofModule : ByteArray := prog_1_method_7_code
def yX10_ofModule : MethodName := ⟨RX10, "ofModule", "(II)I"⟩
abbrev cX10_within : ByteArray := prog_1_method_8_code
def yX10_within : MethodName := ⟨RX10, "within", "(III)I"⟩
abbrev cX10_outside : ByteArray := prog_1_method_9_code
def yX10_outside : MethodName := ⟨RX10, "outside", "(III)I"⟩
abbrev cX10_build : ByteArray := prog_1_method_10_code
def yX10_build : MethodName := ⟨RX10, "build", "(I)I"⟩
abbrev cX10_why : ByteArray := prog_1_method_11_code
def yX10_why : MethodName := ⟨RX10, "why", "(II)I"⟩
abbrev cX10_built : ByteArray := prog_1_method_12_code
def yX10_built : MethodName := ⟨RX10, "built", "(III)I"⟩
abbrev cX10_fault : ByteArray := prog_1_method_13_code
def yX10_fault : MethodName := ⟨RX10, "fault", "(II)I"⟩
abbrev cX10_run : ByteArray := prog_1_method_14_code
def yX10_run : MethodName := ⟨RX10, "run", "(II)I"⟩
abbrev cX10_many : ByteArray := prog_1_method_15_code
def yX10_many : MethodName := ⟨RX10, "many", "(I)I"⟩
abbrev cX10_wouldBuild : ByteArray := prog_1_method_17_code
def yX10_wouldBuild : MethodName := ⟨RX10, "wouldBuild", "()I"⟩
abbrev cX10_builtBy : ByteArray := prog_1_method_18_code
def yX10_builtBy : MethodName := ⟨RX10, "builtBy", "(III)I"⟩
abbrev cX10_rounds : ByteArray := prog_1_method_19_code
def yX10_rounds : MethodName := ⟨RX10, "rounds", "(I)I"⟩
abbrev cX10_isAsNew : ByteArray := prog_1_method_20_code
def yX10_isAsNew : MethodName := ⟨RX10, "isAsNew", "()Z"⟩
abbrev cX10_digest : ByteArray := prog_1_method_21_code
def yX10_digest : MethodName := ⟨RX10, "digest", "()J"⟩
abbrev cX10_digestOfModule : ByteArray := prog_1_method_22_code
def yX10_digestOfModule : MethodName := ⟨RX10, "digestOfModule", "(JI)J"⟩
abbrev cX10_digestOfName : ByteArray := prog_1_method_23_code
def yX10_digestOfName : MethodName := ⟨RX10, "digestOfName", "(JII)J"⟩
abbrev cX10_checkModule : ByteArray := prog_1_method_24_code
def yX10_checkModule : MethodName := ⟨RX10, "checkModule", "(I)V"⟩
abbrev cX10_checkWithin : ByteArray := prog_1_method_25_code
def yX10_checkWithin : MethodName := ⟨RX10, "checkWithin", "(III)V"⟩
abbrev cX10_settle : ByteArray := prog_1_method_26_code
def yX10_settle : MethodName := ⟨RX10, "settle", "()V"⟩
abbrev cX10_clear : ByteArray := prog_1_method_27_code
def yX10_clear : MethodName := ⟨RX10, "clear", "([Z)V"⟩
abbrev cX10_partOf : ByteArray := prog_1_method_28_code
def yX10_partOf : MethodName := ⟨RX10, "partOf", "(II)I"⟩
abbrev cX10_countRenewal : ByteArray := prog_1_method_29_code
def yX10_countRenewal : MethodName := ⟨RX10, "countRenewal", "(IZ)V"⟩
abbrev cX10_slotOfFault : ByteArray := prog_1_method_30_code
def yX10_slotOfFault : MethodName := ⟨RX10, "slotOfFault", "(I)I"⟩
abbrev cX10_valueOf : ByteArray := prog_1_method_31_code
def yX10_valueOf : MethodName := ⟨RX10, "valueOf", "(I)I"⟩
abbrev cX10_openCall : ByteArray := prog_1_method_32_code
def yX10_openCall : MethodName := ⟨RX10, "openCall", "(III)I"⟩
def RX11 : String := "CutoffMillModel$Declaration"
def TX11 : u_T := fun k => match k with
  | _ => ("", "", "", false)
def tyX11 : Nat → FieldType := fun k => match k with
  | _ => .int
abbrev wsX110 : List Cond := u_ws RX11 TX11 0
theorem nmX11 : ∀ a, a < 0 → ∀ b, b < 0 → a ≠ b → (TX11 a).2.1 ≠ (TX11 b).2.1 := by decide +kernel
theorem tyX11_ok : ∀ k, k < 0 → parseFieldDescriptor (TX11 k).2.2.1 = some (tyX11 k) := by decide +kernel
def RX12 : String := "CutoffMillModel$Import"
def TX12 : u_T := fun k => match k with
  | _ => ("", "", "", false)
def tyX12 : Nat → FieldType := fun k => match k with
  | _ => .int
abbrev wsX120 : List Cond := u_ws RX12 TX12 0
theorem nmX12 : ∀ a, a < 0 → ∀ b, b < 0 → a ≠ b → (TX12 a).2.1 ≠ (TX12 b).2.1 := by decide +kernel
theorem tyX12_ok : ∀ k, k < 0 → parseFieldDescriptor (TX12 k).2.2.1 = some (tyX12 k) := by decide +kernel
def RX13 : String := "CutoffMillModel$Maker"
def TX13 : u_T := fun k => match k with
  | _ => ("", "", "", false)
def tyX13 : Nat → FieldType := fun k => match k with
  | _ => .int
abbrev wsX130 : List Cond := u_ws RX13 TX13 0
theorem nmX13 : ∀ a, a < 0 → ∀ b, b < 0 → a ≠ b → (TX13 a).2.1 ≠ (TX13 b).2.1 := by decide +kernel
theorem tyX13_ok : ∀ k, k < 0 → parseFieldDescriptor (TX13 k).2.2.1 = some (tyX13 k) := by decide +kernel
def RX14 : String := "CutoffMillModel$Mill"
def TX14 : u_T := fun k => match k with
  | _ => ("", "", "", false)
def tyX14 : Nat → FieldType := fun k => match k with
  | _ => .int
abbrev wsX140 : List Cond := u_ws RX14 TX14 0
theorem nmX14 : ∀ a, a < 0 → ∀ b, b < 0 → a ≠ b → (TX14 a).2.1 ≠ (TX14 b).2.1 := by decide +kernel
theorem tyX14_ok : ∀ k, k < 0 → parseFieldDescriptor (TX14 k).2.2.1 = some (tyX14 k) := by decide +kernel
def RX15 : String := "CutoffMillModel$Result"
def TX15 : u_T := fun k => match k with
  | _ => ("", "", "", false)
def tyX15 : Nat → FieldType := fun k => match k with
  | _ => .int
abbrev wsX150 : List Cond := u_ws RX15 TX15 0
theorem nmX15 : ∀ a, a < 0 → ∀ b, b < 0 → a ≠ b → (TX15 a).2.1 ≠ (TX15 b).2.1 := by decide +kernel
theorem tyX15_ok : ∀ k, k < 0 → parseFieldDescriptor (TX15 k).2.2.1 = some (tyX15 k) := by decide +kernel
def RX16 : String := "CutoffMillModel$State"
def TX16 : u_T := fun k => match k with
  | _ => ("", "", "", false)
def tyX16 : Nat → FieldType := fun k => match k with
  | _ => .int
abbrev wsX160 : List Cond := u_ws RX16 TX16 0
theorem nmX16 : ∀ a, a < 0 → ∀ b, b < 0 → a ≠ b → (TX16 a).2.1 ≠ (TX16 b).2.1 := by decide +kernel
theorem tyX16_ok : ∀ k, k < 0 → parseFieldDescriptor (TX16 k).2.2.1 = some (tyX16 k) := by decide +kernel
def RX17 : String := "CutoffMillModel$Text"
def TX17 : u_T := fun k => match k with
  | _ => ("", "", "", false)
def tyX17 : Nat → FieldType := fun k => match k with
  | _ => .int
abbrev wsX170 : List Cond := u_ws RX17 TX17 0
theorem nmX17 : ∀ a, a < 0 → ∀ b, b < 0 → a ≠ b → (TX17 a).2.1 ≠ (TX17 b).2.1 := by decide +kernel
theorem tyX17_ok : ∀ k, k < 0 → parseFieldDescriptor (TX17 k).2.2.1 = some (tyX17 k) := by decide +kernel
def RX18 : String := "CutoffMillModel"
def TX18 : u_T := fun k => match k with
  | _ => ("", "", "", false)
def tyX18 : Nat → FieldType := fun k => match k with
  | _ => .int
abbrev wsX180 : List Cond := u_ws RX18 TX18 0
theorem nmX18 : ∀ a, a < 0 → ∀ b, b < 0 → a ≠ b → (TX18 a).2.1 ≠ (TX18 b).2.1 := by decide +kernel
theorem tyX18_ok : ∀ k, k < 0 → parseFieldDescriptor (TX18 k).2.2.1 = some (tyX18 k) := by decide +kernel
def RJx145de : String := "java/io/Serializable"
def TJx145de : u_T := fun k => match k with
  | _ => ("", "", "", false)
def tyJx145de : Nat → FieldType := fun k => match k with
  | _ => .int
abbrev wsJx145de0 : List Cond := u_ws RJx145de TJx145de 0
theorem nmJx145de : ∀ a, a < 0 → ∀ b, b < 0 → a ≠ b → (TJx145de a).2.1 ≠ (TJx145de b).2.1 := by decide +kernel
theorem tyJx145de_ok : ∀ k, k < 0 → parseFieldDescriptor (TJx145de k).2.2.1 = some (tyJx145de k) := by decide +kernel
def RJ6 : String := "java/lang/Integer"
def TJ6 : u_T := fun k => match k with
  | _ => ("", "", "", false)
def tyJ6 : Nat → FieldType := fun k => match k with
  | _ => .int
abbrev wsJ60 : List Cond := u_ws RJ6 TJ6 0
theorem nmJ6 : ∀ a, a < 0 → ∀ b, b < 0 → a ≠ b → (TJ6 a).2.1 ≠ (TJ6 b).2.1 := by decide +kernel
theorem tyJ6_ok : ∀ k, k < 0 → parseFieldDescriptor (TJ6 k).2.2.1 = some (tyJ6 k) := by decide +kernel
abbrev cJ6_bitCount_0f7a4 : ByteArray := prog_25_method_49_code
def yJ6_bitCount_0f7a4 : MethodName := ⟨RJ6, "bitCount", "(I)I"⟩
def RJ0 : String := "java/lang/String"
def TJ0 : u_T := fun k => match k with
  | _ => ("", "", "", false)
def tyJ0 : Nat → FieldType := fun k => match k with
  | _ => .int
abbrev wsJ00 : List Cond := u_ws RJ0 TJ0 0
theorem nmJ0 : ∀ a, a < 0 → ∀ b, b < 0 → a ≠ b → (TJ0 a).2.1 ≠ (TJ0 b).2.1 := by decide +kernel
theorem tyJ0_ok : ∀ k, k < 0 → parseFieldDescriptor (TJ0 k).2.2.1 = some (tyJ0 k) := by decide +kernel
def RJ10 : String := "java/lang/System"
def TJ10 : u_T := fun k => match k with
  | _ => ("", "", "", false)
def tyJ10 : Nat → FieldType := fun k => match k with
  | _ => .int
abbrev wsJ100 : List Cond := u_ws RJ10 TJ10 0
theorem nmJ10 : ∀ a, a < 0 → ∀ b, b < 0 → a ≠ b → (TJ10 a).2.1 ≠ (TJ10 b).2.1 := by decide +kernel
theorem tyJ10_ok : ∀ k, k < 0 → parseFieldDescriptor (TJ10 k).2.2.1 = some (tyJ10 k) := by decide +kernel
def RJ7 : String := "java/util/Arrays"
def TJ7 : u_T := fun k => match k with
  | _ => ("", "", "", false)
def tyJ7 : Nat → FieldType := fun k => match k with
  | _ => .int
abbrev wsJ70 : List Cond := u_ws RJ7 TJ7 0
theorem nmJ7 : ∀ a, a < 0 → ∀ b, b < 0 → a ≠ b → (TJ7 a).2.1 ≠ (TJ7 b).2.1 := by decide +kernel
theorem tyJ7_ok : ∀ k, k < 0 → parseFieldDescriptor (TJ7 k).2.2.1 = some (tyJ7 k) := by decide +kernel
abbrev cJ7_fill_d0a16 : ByteArray := prog_30_method_101_code
def yJ7_fill_d0a16 : MethodName := ⟨RJ7, "fill", "([JJ)V"⟩
abbrev cJ7_fill_53178 : ByteArray := prog_30_method_103_code
def yJ7_fill_53178 : MethodName := ⟨RJ7, "fill", "([II)V"⟩
def RL : String := "CutoffMillLaw"
abbrev cL_below : ByteArray := method_2_code
def yL_below : MethodName := ⟨RL, "below", "(II)I"⟩
abbrev cL_cell : ByteArray := method_3_code
def yL_cell : MethodName := ⟨RL, "cell", "([II)I"⟩
abbrev cL_law : ByteArray := code
def yL_law : MethodName := ⟨RL, "law", "([I)Z"⟩
abbrev cL_isBuilt : ByteArray := method_5_code
def yL_isBuilt : MethodName := ⟨RL, "isBuilt", "(LCutoffMill;I)Z"⟩
abbrev cL_edit : ByteArray := method_6_code
def yL_edit : MethodName := ⟨RL, "edit", "(LCutoffMill;III)Z"⟩
def wsL_law0_r1 : List Cond := [Cond.classLink RL 9 RX10, Cond.instantiable RX10 11, Cond.initialized RX10, Cond.arrayClass .int, Cond.methodLink RL 11 yX10_init, Cond.instanceMethod yX10_init, Cond.code yX10_init cX10_init 1 none, Cond.methodLink RX10 3 objectInit, Cond.instanceMethod objectInit, Cond.code objectInit ⟨#[0xb1]⟩ 1 none, Cond.classLink RX10 9 RX8, Cond.instantiable RX8 4, Cond.initialized RX8, Cond.fieldLink RX10 12 "CutoffMill" "texts" "LCutoffMill$Texts;", Cond.classLink RX10 16 RX4, Cond.instantiable RX4 8, Cond.initialized RX4, Cond.fieldLink RX10 21 "CutoffMill" "names" "LCutoffMill$Names;", Cond.classLink RX10 25 RX6, Cond.instantiable RX6 7, Cond.initialized RX6, Cond.fieldLink RX10 28 "CutoffMill" "rings" "LCutoffMill$Rings;", Cond.classLink RX10 32 RX9, Cond.instantiable RX9 8]
def wsL_law0_r2 : List Cond := [Cond.initialized RX9, Cond.fieldLink RX10 37 "CutoffMill" "works" "LCutoffMill$Works;", Cond.fieldLink RX10 41 "CutoffMill" "trial" "LCutoffMill$Works;", Cond.fieldLink RX10 44 "CutoffMill" "openCalls" "[I", Cond.fieldLink RX10 48 "CutoffMill" "builtTimes" "[I", Cond.fieldLink RX10 51 "CutoffMill" "fetchedTimes" "[I", Cond.instanceMethod yX8_init, Cond.code yX8_init cX8_init 1 none, Cond.methodLink RX8 3 objectInit, Cond.fieldLink RX8 9 "CutoffMill$Texts" "declarations" "[I", Cond.fieldLink RX8 15 "CutoffMill$Texts" "imports" "[I", Cond.fieldLink RX8 18 "CutoffMill$Texts" "importCounts" "[I", Cond.methodLink RX10 18 yX4_init, Cond.instanceMethod yX4_init, Cond.code yX4_init cX4_init 2 none, Cond.methodLink RX4 3 objectInit, Cond.fieldLink RX4 9 "CutoffMill$Names" "outside" "[I", Cond.fieldLink RX4 15 "CutoffMill$Names" "within" "[I", Cond.fieldLink RX4 18 "CutoffMill$Names" "wanted" "[I", Cond.fieldLink RX4 21 "CutoffMill$Names" "sources" "[I", Cond.fieldLink RX4 24 "CutoffMill$Names" "sourcesAgain" "[I", Cond.fieldLink RX4 27 "CutoffMill$Names" "allFrom" "[I", Cond.fieldLink RX4 30 "CutoffMill$Names" "allFromAgain" "[I", Cond.fieldLink RX4 33 "CutoffMill$Names" "texts" "LCutoffMill$Texts;"]
def wsL_law0_r3 : List Cond := [Cond.methodLink RX10 27 yX6_init, Cond.instanceMethod yX6_init, Cond.code yX6_init cX6_init 2 none, Cond.methodLink RX6 3 objectInit, Cond.fieldLink RX6 9 "CutoffMill$Rings" "leansOn" "[I", Cond.fieldLink RX6 15 "CutoffMill$Rings" "reach" "[I", Cond.fieldLink RX6 18 "CutoffMill$Rings" "ringOf" "[I", Cond.fieldLink RX6 21 "CutoffMill$Rings" "placeOf" "[I", Cond.fieldLink RX6 24 "CutoffMill$Rings" "order" "[I", Cond.fieldLink RX6 27 "CutoffMill$Rings" "texts" "LCutoffMill$Texts;", Cond.methodLink RX10 34 yX9_init, Cond.instanceMethod yX9_init, Cond.code yX9_init cX9_init 6 none, Cond.methodLink RX9 3 objectInit, Cond.classLink RX9 9 RX5, Cond.fieldLink RX9 11 "CutoffMill$Works" "last" "[LCutoffMill$Result;", Cond.fieldLink RX9 17 "CutoffMill$Works" "texts" "LCutoffMill$Texts;", Cond.fieldLink RX9 21 "CutoffMill$Works" "names" "LCutoffMill$Names;", Cond.fieldLink RX9 25 "CutoffMill$Works" "rings" "LCutoffMill$Rings;", Cond.classLink RX9 29 RX7, Cond.instantiable RX7 2, Cond.initialized RX7, Cond.fieldLink RX9 34 "CutoffMill$Works" "store" "LCutoffMill$Store;", Cond.instantiable RX5 10]
def wsL_law0_r4 : List Cond := [Cond.initialized RX5, Cond.fieldLink RX9 39 "CutoffMill$Works" "unbuilt" "LCutoffMill$Result;", Cond.fieldLink RX9 43 "CutoffMill$Works" "pool" "[LCutoffMill$Result;", Cond.classLink RX9 46 RX3, Cond.instantiable RX3 8, Cond.initialized RX3, Cond.fieldLink RX9 51 "CutoffMill$Works" "maker" "LCutoffMill$Maker;", Cond.methodLink RX9 31 yX7_init, Cond.instanceMethod yX7_init, Cond.code yX7_init cX7_init 2 none, Cond.methodLink RX7 1 objectInit, Cond.classLink RX7 7 RX5, Cond.fieldLink RX7 9 "CutoffMill$Store" "kept" "[LCutoffMill$Result;", Cond.methodLink RX9 38 yX5_init, Cond.instanceMethod yX5_init, Cond.code yX5_init cX5_init 2 none, Cond.methodLink RX5 3 objectInit, Cond.classLink RX5 9 RX8, Cond.fieldLink RX5 12 "CutoffMill$Result" "texts" "LCutoffMill$Texts;", Cond.arrayClass .long, Cond.fieldLink RX5 18 "CutoffMill$Result" "noted" "[J", Cond.fieldLink RX5 22 "CutoffMill$Result" "answers" "[J", Cond.fieldLink RX5 25 "CutoffMill$Result" "faults" "[I", Cond.arrayClass .boolean]
def wsL_law0_r5 : List Cond := [Cond.fieldLink RX5 29 "CutoffMill$Result" "isProcedure" "[Z", Cond.fieldLink RX5 33 "CutoffMill$Result" "isPlain" "[Z", Cond.fieldLink RX5 36 "CutoffMill$Result" "numbers" "[I", Cond.fieldLink RX5 39 "CutoffMill$Result" "firstCalls" "[I", Cond.fieldLink RX5 42 "CutoffMill$Result" "secondCalls" "[I", Cond.methodLink RX5 45 yX5_setUnbuilt, Cond.instanceMethod yX5_setUnbuilt, Cond.selects RX5 yX5_setUnbuilt yX5_setUnbuilt, Cond.code yX5_setUnbuilt cX5_setUnbuilt 2 none, Cond.methodLink RX5 65 yX0_of, Cond.static yX0_of, Cond.initialized RX0, Cond.code yX0_of cX0_of 5 (some .long), Cond.constantLong RX0 9 (4294967295), Cond.methodLink RX9 48 yX3_init, Cond.instanceMethod yX3_init, Cond.code yX3_init cX3_init 2 none, Cond.methodLink RX3 3 objectInit, Cond.classLink RX3 9 RX5, Cond.fieldLink RX3 11 "CutoffMill$Maker" "states" "[LCutoffMill$Result;", Cond.fieldLink RX3 17 "CutoffMill$Maker" "members" "[I", Cond.fieldLink RX3 21 "CutoffMill$Maker" "targets" "[I", Cond.fieldLink RX3 24 "CutoffMill$Maker" "isLink" "[Z", Cond.fieldLink RX3 28 "CutoffMill$Maker" "walk" "[I"]
def wsL_law0_r6 : List Cond := [Cond.fieldLink RX3 31 "CutoffMill$Maker" "isWalked" "[Z", Cond.fieldLink RX3 34 "CutoffMill$Maker" "names" "LCutoffMill$Names;", Cond.methodLink RL 12 yL_cell, Cond.static yL_cell, Cond.initialized RL, Cond.code yL_cell cL_cell 2 (some .int), Cond.constant RL 8 (790386105), Cond.methodLink RL 18 yL_below, Cond.static yL_below, Cond.code yL_below cL_below 2 (some .int), Cond.constant RL 7 (2147483647), Cond.methodLink RL 22 yX10_module, Cond.instanceMethod yX10_module, Cond.selects RX10 yX10_module yX10_module, Cond.code yX10_module cX10_module 1 (some .int), Cond.classLink RX10 58 "java/lang/IllegalStateException", Cond.initialized "java/lang/IllegalStateException", Cond.fieldLink RX10 54 "CutoffMill$Texts" "moduleCount" "I", Cond.methodLink RX10 65 yX10_settle, Cond.instanceMethod yX10_settle, Cond.selects RX10 yX10_settle yX10_settle, Cond.code yX10_settle cX10_settle 1 none, Cond.methodLink RX10 304 yX4_settle, Cond.instanceMethod yX4_settle]
def wsL_law0_r7 : List Cond := [Cond.selects RX4 yX4_settle yX4_settle, Cond.code yX4_settle cX4_settle 2 none, Cond.fieldLink RX4 49 "CutoffMill$Texts" "moduleCount" "I", Cond.methodLink RX4 37 yX4_settleImports, Cond.instanceMethod yX4_settleImports, Cond.selects RX4 yX4_settleImports yX4_settleImports, Cond.code yX4_settleImports cX4_settleImports 3 none, Cond.fieldLink RX4 67 "CutoffMill$Texts" "importCounts" "[I", Cond.methodLink RX4 43 yJ7_fill_53178, Cond.static yJ7_fill_53178, Cond.initialized RJ7, Cond.code yJ7_fill_53178 cJ7_fill_53178 4 none, Cond.methodLink RX4 70 yX8_importAt, Cond.instanceMethod yX8_importAt, Cond.selects RX8 yX8_importAt yX8_importAt, Cond.code yX8_importAt cX8_importAt 3 (some .int), Cond.methodLink RX4 74 yX4_settleImport, Cond.instanceMethod yX4_settleImport, Cond.selects RX4 yX4_settleImport yX4_settleImport, Cond.code yX4_settleImport cX4_settleImport 5 none, Cond.methodLink RX4 78 yX2_isAgain, Cond.static yX2_isAgain, Cond.initialized RX2, Cond.code yX2_isAgain cX2_isAgain 1 (some .boolean)]
def wsL_law0_r8 : List Cond := [Cond.methodLink RX4 83 yX2_isOfAll, Cond.static yX2_isOfAll, Cond.code yX2_isOfAll cX2_isOfAll 1 (some .boolean), Cond.methodLink RX4 86 yX2_from, Cond.static yX2_from, Cond.code yX2_from cX2_from 1 (some .int), Cond.methodLink RX4 90 yX2_under, Cond.static yX2_under, Cond.code yX2_under cX2_under 1 (some .int), Cond.methodLink RX4 93 yX2_source, Cond.static yX2_source, Cond.code yX2_source cX2_source 1 (some .int), Cond.methodLink RX2 9 yX2_from, Cond.methodLink RX4 40 yX4_settleOutside, Cond.instanceMethod yX4_settleOutside, Cond.selects RX4 yX4_settleOutside yX4_settleOutside, Cond.code yX4_settleOutside cX4_settleOutside 5 none, Cond.methodLink RX4 96 yX4_lookedUp, Cond.instanceMethod yX4_lookedUp, Cond.selects RX4 yX4_lookedUp yX4_lookedUp, Cond.code yX4_lookedUp cX4_lookedUp 2 (some .int), Cond.fieldLink RX4 99 "CutoffMill$Texts" "declarations" "[I", Cond.methodLink RX4 55 yX8_isDeclared, Cond.instanceMethod yX8_isDeclared]
def wsL_law0_r9 : List Cond := [Cond.selects RX8 yX8_isDeclared yX8_isDeclared, Cond.code yX8_isDeclared cX8_isDeclared 2 (some .boolean), Cond.methodLink RX4 102 yX1_isPublic, Cond.static yX1_isPublic, Cond.initialized RX1, Cond.code yX1_isPublic cX1_isPublic 1 (some .boolean), Cond.methodLink RX4 59 yX4_broughtTo, Cond.instanceMethod yX4_broughtTo, Cond.selects RX4 yX4_broughtTo yX4_broughtTo, Cond.code yX4_broughtTo cX4_broughtTo 6 (some .int), Cond.methodLink RX4 107 yX6_has, Cond.static yX6_has, Cond.code yX6_has cX6_has 2 (some .boolean), Cond.methodLink RX4 113 yX4_joined, Cond.static yX4_joined, Cond.code yX4_joined cX4_joined 2 (some .int), Cond.methodLink RX4 63 yX4_wantReferences, Cond.instanceMethod yX4_wantReferences, Cond.selects RX4 yX4_wantReferences yX4_wantReferences, Cond.code yX4_wantReferences cX4_wantReferences 3 none, Cond.methodLink RX4 116 yX1_reference, Cond.static yX1_reference, Cond.code yX1_reference cX1_reference 2 (some .int), Cond.methodLink RX4 119 yX4_want]
def wsL_law0_r10 : List Cond := [Cond.instanceMethod yX4_want, Cond.selects RX4 yX4_want yX4_want, Cond.code yX4_want cX4_want 5 none, Cond.methodLink RX10 305 yX6_settle, Cond.instanceMethod yX6_settle, Cond.selects RX6 yX6_settle yX6_settle, Cond.code yX6_settle cX6_settle 2 none, Cond.fieldLink RX6 38 "CutoffMill$Texts" "moduleCount" "I", Cond.methodLink RX6 35 yX6_settleLeaning, Cond.instanceMethod yX6_settleLeaning, Cond.selects RX6 yX6_settleLeaning yX6_settleLeaning, Cond.code yX6_settleLeaning cX6_settleLeaning 4 none, Cond.fieldLink RX6 51 "CutoffMill$Texts" "importCounts" "[I", Cond.methodLink RX6 54 yX8_importAt, Cond.methodLink RX6 58 yX2_from, Cond.methodLink RX6 31 yX6_has, Cond.methodLink RX6 44 yX6_ringAround, Cond.instanceMethod yX6_ringAround, Cond.selects RX6 yX6_ringAround yX6_ringAround, Cond.code yX6_ringAround cX6_ringAround 4 (some .int), Cond.methodLink RX6 48 yX6_settleOrder, Cond.instanceMethod yX6_settleOrder, Cond.selects RX6 yX6_settleOrder yX6_settleOrder, Cond.code yX6_settleOrder cX6_settleOrder 4 none]
def wsL_law0_r11 : List Cond := [Cond.fieldLink RX6 63 "CutoffMill$Rings" "count" "I", Cond.methodLink RX6 66 yX6_nextBehind, Cond.instanceMethod yX6_nextBehind, Cond.selects RX6 yX6_nextBehind yX6_nextBehind, Cond.code yX6_nextBehind cX6_nextBehind 4 (some .int), Cond.methodLink RX6 69 yX6_placeModules, Cond.instanceMethod yX6_placeModules, Cond.selects RX6 yX6_placeModules yX6_placeModules, Cond.code yX6_placeModules cX6_placeModules 4 none, Cond.methodLink RL 26 yL_edit, Cond.static yL_edit, Cond.code yL_edit cL_edit 9 (some .boolean), Cond.methodLink RL 69 yX10_ofModule, Cond.instanceMethod yX10_ofModule, Cond.selects RX10 yX10_ofModule yX10_ofModule, Cond.code yX10_ofModule cX10_ofModule 4 (some .int), Cond.fieldLink RX10 124 "CutoffMill$Rings" "ringOf" "[I", Cond.fieldLink RX10 102 "CutoffMill$Texts" "importCounts" "[I", Cond.fieldLink RX10 130 "CutoffMill$Rings" "placeOf" "[I", Cond.fieldLink RX10 133 "CutoffMill$Rings" "leansOn" "[I", Cond.methodLink RX10 68 yX10_checkModule, Cond.instanceMethod yX10_checkModule, Cond.selects RX10 yX10_checkModule yX10_checkModule, Cond.code yX10_checkModule cX10_checkModule 2 none]
def wsL_law0_r12 : List Cond := [Cond.classLink RX10 116 "java/lang/IndexOutOfBoundsException", Cond.initialized "java/lang/IndexOutOfBoundsException", Cond.methodLink RX10 72 yX10_checkWithin, Cond.static yX10_checkWithin, Cond.code yX10_checkWithin cX10_checkWithin 3 none, Cond.classLink RX10 95 "java/lang/IllegalArgumentException", Cond.initialized "java/lang/IllegalArgumentException", Cond.methodLink RX10 80 yX8_declarationsOf, Cond.instanceMethod yX8_declarationsOf, Cond.selects RX8 yX8_declarationsOf yX8_declarationsOf, Cond.code yX8_declarationsOf cX8_declarationsOf 4 (some .int), Cond.methodLink RX8 21 yX8_isDeclared, Cond.methodLink RX10 127 yX6_smallestOf, Cond.static yX6_smallestOf, Cond.code yX6_smallestOf cX6_smallestOf 2 (some .int), Cond.methodLink RX10 136 yX4_wantedBy, Cond.instanceMethod yX4_wantedBy, Cond.selects RX4 yX4_wantedBy yX4_wantedBy, Cond.code yX4_wantedBy cX4_wantedBy 4 (some .int), Cond.methodLink RX4 122 yJ6_bitCount_0f7a4, Cond.static yJ6_bitCount_0f7a4, Cond.initialized RJ6, Cond.code yJ6_bitCount_0f7a4 cJ6_bitCount_0f7a4 1 (some .int), Cond.constant RJ6 265 (1431655765)]
def wsL_law0_r13 : List Cond := [Cond.constant RJ6 266 (858993459), Cond.constant RJ6 267 (252645135), Cond.methodLink RX10 139 yX9_reasonOf, Cond.instanceMethod yX9_reasonOf, Cond.selects RX9 yX9_reasonOf yX9_reasonOf, Cond.code yX9_reasonOf cX9_reasonOf 3 (some .int), Cond.methodLink RX9 90 yX9_firstUnbuilt, Cond.instanceMethod yX9_firstUnbuilt, Cond.selects RX9 yX9_firstUnbuilt yX9_firstUnbuilt, Cond.code yX9_firstUnbuilt cX9_firstUnbuilt 3 (some .int), Cond.fieldLink RX9 113 "CutoffMill$Result" "modules" "I", Cond.methodLink RX9 109 yX6_has, Cond.methodLink RX9 93 yX9_wasInOtherRing, Cond.instanceMethod yX9_wasInOtherRing, Cond.selects RX9 yX9_wasInOtherRing yX9_wasInOtherRing, Cond.code yX9_wasInOtherRing cX9_wasInOtherRing 3 (some .boolean), Cond.methodLink RX9 96 yX9_resultOf, Cond.instanceMethod yX9_resultOf, Cond.selects RX9 yX9_resultOf yX9_resultOf, Cond.code yX9_resultOf cX9_resultOf 3 (some (.object "CutoffMill$Result")), Cond.methodLink RX9 106 yX6_smallestOf, Cond.methodLink RX9 99 yX9_firstOtherText, Cond.instanceMethod yX9_firstOtherText, Cond.selects RX9 yX9_firstOtherText yX9_firstOtherText]
def wsL_law0_r14 : List Cond := [Cond.code yX9_firstOtherText cX9_firstOtherText 3 (some .int), Cond.fieldLink RX9 65 "CutoffMill$Result" "texts" "LCutoffMill$Texts;", Cond.methodLink RX9 116 yX8_isSame, Cond.instanceMethod yX8_isSame, Cond.selects RX8 yX8_isSame yX8_isSame, Cond.code yX8_isSame cX8_isSame 4 (some .boolean), Cond.methodLink RX8 33 yX8_importAt, Cond.methodLink RX9 103 yX9_firstOtherAnswer, Cond.instanceMethod yX9_firstOtherAnswer, Cond.selects RX9 yX9_firstOtherAnswer yX9_firstOtherAnswer, Cond.code yX9_firstOtherAnswer cX9_firstOtherAnswer 3 (some .int), Cond.fieldLink RX9 120 "CutoffMill$Result" "noted" "[J", Cond.constantLong RX9 124 (-3), Cond.methodLink RX9 126 yX9_answerTo, Cond.instanceMethod yX9_answerTo, Cond.selects RX9 yX9_answerTo yX9_answerTo, Cond.code yX9_answerTo cX9_answerTo 4 (some .long), Cond.fieldLink RX9 130 "CutoffMill$Names" "outside" "[I", Cond.fieldLink RX9 135 "CutoffMill$Result" "answers" "[J", Cond.methodLink RL 72 yX10_drop, Cond.instanceMethod yX10_drop, Cond.selects RX10 yX10_drop yX10_drop, Cond.code yX10_drop cX10_drop 5 (some .boolean), Cond.fieldLink RX10 86 "CutoffMill$Texts" "declarations" "[I"]
def wsL_law0_r15 : List Cond := [Cond.methodLink RX10 76 yX8_isDeclared, Cond.methodLink RL 76 yX10_leave, Cond.instanceMethod yX10_leave, Cond.selects RX10 yX10_leave yX10_leave, Cond.code yX10_leave cX10_leave 3 (some .int), Cond.methodLink RX10 121 yX8_removeImport, Cond.instanceMethod yX8_removeImport, Cond.selects RX8 yX8_removeImport yX8_removeImport, Cond.code yX8_removeImport cX8_removeImport 4 none, Cond.methodLink RL 79 yX10_bring, Cond.instanceMethod yX10_bring, Cond.selects RX10 yX10_bring yX10_bring, Cond.code yX10_bring cX10_bring 6 (some .int), Cond.methodLink RX10 107 yX2_of, Cond.static yX2_of, Cond.code yX2_of cX2_of 4 (some .int), Cond.methodLink RX10 112 yX8_addImport, Cond.instanceMethod yX8_addImport, Cond.selects RX8 yX8_addImport yX8_addImport, Cond.code yX8_addImport cX8_addImport 3 none, Cond.methodLink RL 83 yX10_declare, Cond.instanceMethod yX10_declare, Cond.selects RX10 yX10_declare yX10_declare, Cond.code yX10_declare cX10_declare 9 (some .int)]
def wsL_law0_r16 : List Cond := [Cond.methodLink RX10 89 yX1_of, Cond.static yX1_of, Cond.code yX1_of cX1_of 5 (some .int), Cond.methodLink RL 30 yX10_wouldBuild, Cond.instanceMethod yX10_wouldBuild, Cond.selects RX10 yX10_wouldBuild yX10_wouldBuild, Cond.code yX10_wouldBuild cX10_wouldBuild 1 (some .int), Cond.methodLink RX10 241 yX9_startFrom, Cond.instanceMethod yX9_startFrom, Cond.selects RX9 yX9_startFrom yX9_startFrom, Cond.code yX9_startFrom cX9_startFrom 3 none, Cond.methodLink RX9 55 yX8_copy, Cond.instanceMethod yX8_copy, Cond.selects RX8 yX8_copy yX8_copy, Cond.code yX8_copy cX8_copy 2 none, Cond.methodLink RX8 37 arraycopyName, Cond.native arraycopyName, Cond.static arraycopyName, Cond.initialized "java/lang/System", Cond.fieldLink RX8 25 "CutoffMill$Texts" "moduleCount" "I", Cond.methodLink RX10 245 yX9_renewAll, Cond.instanceMethod yX9_renewAll, Cond.selects RX9 yX9_renewAll yX9_renewAll, Cond.code yX9_renewAll cX9_renewAll 3 (some .int)]
def wsL_law0_r17 : List Cond := [Cond.fieldLink RX9 77 "CutoffMill$Rings" "count" "I", Cond.fieldLink RX9 83 "CutoffMill$Rings" "order" "[I", Cond.methodLink RX9 86 yX9_reasonOf, Cond.methodLink RX9 138 yX9_renew, Cond.instanceMethod yX9_renew, Cond.selects RX9 yX9_renew yX9_renew, Cond.code yX9_renew cX9_renew 6 (some .boolean), Cond.fieldLink RX9 151 "CutoffMill$Store" "kept" "[LCutoffMill$Result;", Cond.methodLink RX9 148 yX9_placeInStore, Cond.instanceMethod yX9_placeInStore, Cond.selects RX9 yX9_placeInStore yX9_placeInStore, Cond.code yX9_placeInStore cX9_placeInStore 4 (some .int), Cond.fieldLink RX9 176 "CutoffMill$Store" "count" "I", Cond.methodLink RX9 154 yX7_makeNewest, Cond.instanceMethod yX7_makeNewest, Cond.selects RX7 yX7_makeNewest yX7_makeNewest, Cond.code yX7_makeNewest cX7_makeNewest 3 none, Cond.methodLink RX7 19 yX7_takeOut, Cond.instanceMethod yX7_takeOut, Cond.selects RX7 yX7_takeOut yX7_takeOut, Cond.code yX7_takeOut cX7_takeOut 3 none, Cond.fieldLink RX7 15 "CutoffMill$Store" "count" "I", Cond.methodLink RX7 23 yX7_put, Cond.instanceMethod yX7_put]
def wsL_law0_r18 : List Cond := [Cond.selects RX7 yX7_put yX7_put, Cond.code yX7_put cX7_put 2 none, Cond.methodLink RX9 157 yX9_freeResult, Cond.instanceMethod yX9_freeResult, Cond.selects RX9 yX9_freeResult yX9_freeResult, Cond.code yX9_freeResult cX9_freeResult 3 (some (.object "CutoffMill$Result")), Cond.methodLink RX9 177 yX9_isHeld, Cond.instanceMethod yX9_isHeld, Cond.selects RX9 yX9_isHeld yX9_isHeld, Cond.code yX9_isHeld cX9_isHeld 3 (some .boolean), Cond.methodLink RX9 181 yX7_holds, Cond.instanceMethod yX7_holds, Cond.selects RX7 yX7_holds yX7_holds, Cond.code yX7_holds cX7_holds 3 (some .boolean), Cond.methodLink RX9 161 yX5_begin, Cond.instanceMethod yX5_begin, Cond.selects RX5 yX5_begin yX5_begin, Cond.code yX5_begin cX5_begin 4 none, Cond.fieldLink RX5 49 "CutoffMill$Result" "modules" "I", Cond.constantLong RX5 57 (-3), Cond.methodLink RX5 53 yX8_copy, Cond.methodLink RX5 59 yJ7_fill_d0a16, Cond.static yJ7_fill_d0a16, Cond.code yJ7_fill_d0a16 cJ7_fill_d0a16 5 none]
def wsL_law0_r19 : List Cond := [Cond.methodLink RX9 165 yX9_noteAnswers, Cond.instanceMethod yX9_noteAnswers, Cond.selects RX9 yX9_noteAnswers yX9_noteAnswers, Cond.code yX9_noteAnswers cX9_noteAnswers 4 none, Cond.methodLink RX9 184 yX4_isWanted, Cond.instanceMethod yX4_isWanted, Cond.selects RX4 yX4_isWanted yX4_isWanted, Cond.code yX4_isWanted cX4_isWanted 3 (some .boolean), Cond.methodLink RX9 169 yX3_makeStates, Cond.instanceMethod yX3_makeStates, Cond.selects RX3 yX3_makeStates yX3_makeStates, Cond.code yX3_makeStates cX3_makeStates 4 none, Cond.fieldLink RX3 38 "CutoffMill$Result" "modules" "I", Cond.fieldLink RX3 55 "CutoffMill$Maker" "memberCount" "I", Cond.fieldLink RX3 62 "CutoffMill$Result" "faults" "[I", Cond.methodLink RX3 42 yX6_has, Cond.methodLink RX3 48 yX3_findMembers, Cond.instanceMethod yX3_findMembers, Cond.selects RX3 yX3_findMembers yX3_findMembers, Cond.code yX3_findMembers cX3_findMembers 4 none, Cond.fieldLink RX3 77 "CutoffMill$Result" "texts" "LCutoffMill$Texts;", Cond.fieldLink RX3 86 "CutoffMill$Texts" "declarations" "[I", Cond.fieldLink RX3 89 "CutoffMill$Result" "isProcedure" "[Z", Cond.methodLink RX3 81 yX8_isDeclared]
def wsL_law0_r20 : List Cond := [Cond.methodLink RX3 92 yX1_isProcedure, Cond.static yX1_isProcedure, Cond.code yX1_isProcedure cX1_isProcedure 1 (some .boolean), Cond.methodLink RX3 96 yX1_reference, Cond.methodLink RX3 100 yX3_targetOf, Cond.instanceMethod yX3_targetOf, Cond.selects RX3 yX3_targetOf yX3_targetOf, Cond.code yX3_targetOf cX3_targetOf 3 (some .int), Cond.fieldLink RX3 103 "CutoffMill$Names" "within" "[I", Cond.methodLink RX3 52 yX3_findDirectFaults, Cond.instanceMethod yX3_findDirectFaults, Cond.selects RX3 yX3_findDirectFaults yX3_findDirectFaults, Cond.code yX3_findDirectFaults cX3_findDirectFaults 7 none, Cond.static yX10_clear, Cond.code yX10_clear cX10_clear 2 none, Cond.methodLink RX3 112 yX3_directFault, Cond.instanceMethod yX3_directFault, Cond.selects RX3 yX3_directFault yX3_directFault, Cond.code yX3_directFault cX3_directFault 3 (some .int), Cond.methodLink RX3 58 yX3_comesBack, Cond.instanceMethod yX3_comesBack, Cond.selects RX3 yX3_comesBack yX3_comesBack, Cond.code yX3_comesBack cX3_comesBack 6 (some .boolean), Cond.methodLink RX3 65 yX3_spreadFaults]
def wsL_law0_r21 : List Cond := [Cond.instanceMethod yX3_spreadFaults, Cond.selects RX3 yX3_spreadFaults yX3_spreadFaults, Cond.code yX3_spreadFaults cX3_spreadFaults 6 none, Cond.methodLink RX3 116 yX3_isFaulty, Cond.instanceMethod yX3_isFaulty, Cond.selects RX3 yX3_isFaulty yX3_isFaulty, Cond.code yX3_isFaulty cX3_isFaulty 2 (some .boolean), Cond.methodLink RX3 68 yX3_findPlain, Cond.instanceMethod yX3_findPlain, Cond.selects RX3 yX3_findPlain yX3_findPlain, Cond.code yX3_findPlain cX3_findPlain 6 none, Cond.fieldLink RX3 119 "CutoffMill$Result" "isPlain" "[Z", Cond.fieldLink RX3 125 "CutoffMill$Result" "numbers" "[I", Cond.methodLink RX3 122 yX3_isNoCall, Cond.instanceMethod yX3_isNoCall, Cond.selects RX3 yX3_isNoCall yX3_isNoCall, Cond.code yX3_isNoCall cX3_isNoCall 2 (some .boolean), Cond.methodLink RX3 128 yX3_numberWithTargets, Cond.instanceMethod yX3_numberWithTargets, Cond.selects RX3 yX3_numberWithTargets yX3_numberWithTargets, Cond.code yX3_numberWithTargets cX3_numberWithTargets 6 (some .int), Cond.methodLink RX3 132 yX1_numberOf, Cond.static yX1_numberOf, Cond.code yX1_numberOf cX1_numberOf 1 (some .int)]
def wsL_law0_r22 : List Cond := [Cond.methodLink RX3 71 yX3_findCalls, Cond.instanceMethod yX3_findCalls, Cond.selects RX3 yX3_findCalls yX3_findCalls, Cond.code yX3_findCalls cX3_findCalls 4 none, Cond.methodLink RX3 136 yX3_addCall, Cond.instanceMethod yX3_addCall, Cond.selects RX3 yX3_addCall yX3_addCall, Cond.code yX3_addCall cX3_addCall 4 none, Cond.fieldLink RX3 140 "CutoffMill$Result" "firstCalls" "[I", Cond.fieldLink RX3 143 "CutoffMill$Result" "secondCalls" "[I", Cond.methodLink RX3 74 yX3_tellAnswers, Cond.instanceMethod yX3_tellAnswers, Cond.selects RX3 yX3_tellAnswers yX3_tellAnswers, Cond.code yX3_tellAnswers cX3_tellAnswers 5 none, Cond.fieldLink RX3 146 "CutoffMill$Result" "answers" "[J", Cond.methodLink RX3 150 yX0_of, Cond.methodLink RX9 173 yX7_put, Cond.methodLink RL 33 yX10_rounds, Cond.instanceMethod yX10_rounds, Cond.selects RX10 yX10_rounds yX10_rounds, Cond.code yX10_rounds cX10_rounds 3 (some .int), Cond.methodLink RX10 252 yX9_renewRound, Cond.instanceMethod yX9_renewRound, Cond.selects RX9 yX9_renewRound yX9_renewRound]
def wsL_law0_r23 : List Cond := [Cond.code yX9_renewRound cX9_renewRound 7 (some .int), Cond.fieldLink RX9 145 "CutoffMill$Rings" "reach" "[I", Cond.methodLink RX9 141 yX9_staleModules, Cond.instanceMethod yX9_staleModules, Cond.selects RX9 yX9_staleModules yX9_staleModules, Cond.code yX9_staleModules cX9_staleModules 3 (some .int), Cond.methodLink RL 37 yX10_many, Cond.instanceMethod yX10_many, Cond.selects RX10 yX10_many yX10_many, Cond.code yX10_many cX10_many 2 (some .int), Cond.fieldLink RX10 171 "CutoffMill$Rings" "count" "I", Cond.fieldLink RX10 228 "CutoffMill$Works" "store" "LCutoffMill$Store;", Cond.fieldLink RX10 232 "CutoffMill$Store" "count" "I", Cond.fieldLink RX10 235 "CutoffMill" "ringsBuilt" "I", Cond.fieldLink RX10 238 "CutoffMill" "ringsFetched" "I", Cond.fieldLink RX10 168 "CutoffMill" "builds" "I", Cond.methodLink RX10 215 yX8_allDeclarations, Cond.instanceMethod yX8_allDeclarations, Cond.selects RX8 yX8_allDeclarations yX8_allDeclarations, Cond.code yX8_allDeclarations cX8_allDeclarations 3 (some .int), Cond.methodLink RX8 29 yX8_declarationsOf, Cond.methodLink RX10 219 yX8_allImports, Cond.instanceMethod yX8_allImports, Cond.selects RX8 yX8_allImports yX8_allImports]
def wsL_law0_r24 : List Cond := [Cond.code yX8_allImports cX8_allImports 3 (some .int), Cond.methodLink RX10 222 yX9_staleCount, Cond.instanceMethod yX9_staleCount, Cond.selects RX9 yX9_staleCount yX9_staleCount, Cond.code yX9_staleCount cX9_staleCount 3 (some .int), Cond.methodLink RX10 225 yX9_faultCount, Cond.instanceMethod yX9_faultCount, Cond.selects RX9 yX9_faultCount yX9_faultCount, Cond.code yX9_faultCount cX9_faultCount 3 (some .int), Cond.methodLink RX9 74 yX9_isFaulty, Cond.instanceMethod yX9_isFaulty, Cond.selects RX9 yX9_isFaulty yX9_isFaulty, Cond.code yX9_isFaulty cX9_isFaulty 3 (some .boolean), Cond.fieldLink RX9 70 "CutoffMill$Result" "faults" "[I", Cond.methodLink RX9 61 yX9_stateOf, Cond.instanceMethod yX9_stateOf, Cond.selects RX9 yX9_stateOf yX9_stateOf, Cond.code yX9_stateOf cX9_stateOf 2 (some (.object "CutoffMill$Result")), Cond.methodLink RX9 66 yX8_isDeclared, Cond.methodLink RL 40 yX10_build, Cond.instanceMethod yX10_build, Cond.selects RX10 yX10_build yX10_build, Cond.code yX10_build cX10_build 5 (some .int), Cond.fieldLink RX10 174 "CutoffMill$Rings" "order" "[I"]
def wsL_law0_r25 : List Cond := [Cond.methodLink RX10 177 yX9_renew, Cond.methodLink RX10 180 yX10_countRenewal, Cond.instanceMethod yX10_countRenewal, Cond.selects RX10 yX10_countRenewal yX10_countRenewal, Cond.code yX10_countRenewal cX10_countRenewal 5 none, Cond.methodLink RX10 306 yX6_has, Cond.methodLink RL 43 yX10_isAsNew, Cond.instanceMethod yX10_isAsNew, Cond.selects RX10 yX10_isAsNew yX10_isAsNew, Cond.code yX10_isAsNew cX10_isAsNew 1 (some .boolean), Cond.methodLink RL 47 yL_isBuilt, Cond.static yL_isBuilt, Cond.code yL_isBuilt cL_isBuilt 6 (some .boolean), Cond.constant RL 65 (-1000000), Cond.methodLink RL 62 yX10_built, Cond.instanceMethod yX10_built, Cond.selects RX10 yX10_built yX10_built, Cond.code yX10_built cX10_built 6 (some .int), Cond.fieldLink RX10 194 "CutoffMill$Result" "texts" "LCutoffMill$Texts;", Cond.fieldLink RX10 195 "CutoffMill$Result" "faults" "[I", Cond.fieldLink RX10 156 "CutoffMill$Result" "answers" "[J", Cond.fieldLink RX10 198 "CutoffMill$Result" "numbers" "[I", Cond.fieldLink RX10 204 "CutoffMill$Result" "firstCalls" "[I", Cond.methodLink RX10 152 yX9_stateOf]
def wsL_law0_r26 : List Cond := [Cond.methodLink RX10 162 yX0_trait, Cond.static yX0_trait, Cond.code yX0_trait cX0_trait 3 (some .int), Cond.methodLink RX10 201 yX5_callCount, Cond.instanceMethod yX5_callCount, Cond.selects RX5 yX5_callCount yX5_callCount, Cond.code yX5_callCount cX5_callCount 2 (some .int), Cond.methodLink RX10 145 yX10_partOf, Cond.static yX10_partOf, Cond.code yX10_partOf cX10_partOf 2 (some .int), Cond.methodLink RL 51 yX10_run, Cond.instanceMethod yX10_run, Cond.selects RX10 yX10_run yX10_run, Cond.code yX10_run cX10_run 3 (some .int), Cond.methodLink RX10 212 yX10_valueOf, Cond.instanceMethod yX10_valueOf, Cond.selects RX10 yX10_valueOf yX10_valueOf, Cond.code yX10_valueOf cX10_valueOf 8 (some .int), Cond.constant RX10 313 (-1000000), Cond.fieldLink RX10 314 "CutoffMill$Result" "secondCalls" "[I", Cond.methodLink RX10 317 yX10_openCall, Cond.instanceMethod yX10_openCall, Cond.selects RX10 yX10_openCall yX10_openCall, Cond.code yX10_openCall cX10_openCall 4 (some .int)]
def wsL_law0_r27 : List Cond := [Cond.methodLink RL 66 yX10_fault, Cond.instanceMethod yX10_fault, Cond.selects RX10 yX10_fault yX10_fault, Cond.code yX10_fault cX10_fault 4 (some .int), Cond.methodLink RX10 207 yX10_slotOfFault, Cond.instanceMethod yX10_slotOfFault, Cond.selects RX10 yX10_slotOfFault yX10_slotOfFault, Cond.code yX10_slotOfFault cX10_slotOfFault 4 (some .int), Cond.methodLink RX10 310 yX9_isFaulty, Cond.methodLink RL 54 yX10_digest, Cond.instanceMethod yX10_digest, Cond.selects RX10 yX10_digest yX10_digest, Cond.code yX10_digest cX10_digest 6 (some .long), Cond.constantLong RX10 255 (58138), Cond.constantLong RX10 257 (31), Cond.methodLink RX10 259 yX10_many, Cond.methodLink RX10 262 yX10_digestOfModule, Cond.instanceMethod yX10_digestOfModule, Cond.selects RX10 yX10_digestOfModule yX10_digestOfModule, Cond.code yX10_digestOfModule cX10_digestOfModule 7 (some .long), Cond.methodLink RX10 279 yX10_ofModule, Cond.methodLink RX10 282 yX10_why, Cond.instanceMethod yX10_why, Cond.selects RX10 yX10_why yX10_why]
def wsL_law0_r28 : List Cond := [Cond.code yX10_why cX10_why 5 (some .int), Cond.methodLink RX10 184 yX9_culpritOf, Cond.instanceMethod yX9_culpritOf, Cond.selects RX9 yX9_culpritOf yX9_culpritOf, Cond.code yX9_culpritOf cX9_culpritOf 3 (some .int), Cond.methodLink RX10 187 yX9_resultOf, Cond.methodLink RX10 190 yX9_firstOtherAnswer, Cond.methodLink RX10 285 yX10_digestOfName, Cond.instanceMethod yX10_digestOfName, Cond.selects RX10 yX10_digestOfName yX10_digestOfName, Cond.code yX10_digestOfName cX10_digestOfName 8 (some .long), Cond.methodLink RX10 289 yX10_within, Cond.instanceMethod yX10_within, Cond.selects RX10 yX10_within yX10_within, Cond.code yX10_within cX10_within 4 (some .int), Cond.fieldLink RX10 142 "CutoffMill$Names" "within" "[I", Cond.methodLink RX10 292 yX10_outside, Cond.instanceMethod yX10_outside, Cond.selects RX10 yX10_outside yX10_outside, Cond.code yX10_outside cX10_outside 5 (some .int), Cond.fieldLink RX10 149 "CutoffMill$Names" "outside" "[I", Cond.methodLink RX10 294 yX10_built, Cond.methodLink RX10 297 yX10_run, Cond.methodLink RX10 266 yX10_fault]
def wsL_law0_r29 : List Cond := [Cond.methodLink RX10 269 yX10_wouldBuild, Cond.methodLink RX10 272 yX10_rounds, Cond.methodLink RX10 275 yX10_isAsNew, Cond.methodLink RL 58 yX10_builtBy, Cond.instanceMethod yX10_builtBy, Cond.selects RX10 yX10_builtBy yX10_builtBy, Cond.code yX10_builtBy cX10_builtBy 5 (some .int), Cond.fieldLink RX10 248 "CutoffMill$Works" "texts" "LCutoffMill$Texts;", Cond.methodLink RX10 249 yX1_withNumber, Cond.static yX1_withNumber, Cond.code yX1_withNumber cX1_withNumber 2 (some .int)]
def wsL_law0 : List Cond := (wsL_law0_r1 ++ (wsL_law0_r2 ++ (wsL_law0_r3 ++ (wsL_law0_r4 ++ (wsL_law0_r5 ++ (wsL_law0_r6 ++ (wsL_law0_r7 ++ (wsL_law0_r8 ++ (wsL_law0_r9 ++ (wsL_law0_r10 ++ (wsL_law0_r11 ++ (wsL_law0_r12 ++ (wsL_law0_r13 ++ (wsL_law0_r14 ++ (wsL_law0_r15 ++ (wsL_law0_r16 ++ (wsL_law0_r17 ++ (wsL_law0_r18 ++ (wsL_law0_r19 ++ (wsL_law0_r20 ++ (wsL_law0_r21 ++ (wsL_law0_r22 ++ (wsL_law0_r23 ++ (wsL_law0_r24 ++ (wsL_law0_r25 ++ (wsL_law0_r26 ++ (wsL_law0_r27 ++ (wsL_law0_r28 ++ wsL_law0_r29)))))))))))))))))))))))))))) ++ wsX100 ++ wsX80 ++ wsX40 ++ wsX60 ++ wsX90 ++ wsX70 ++ wsX50 ++ wsX30 ++ ([] : List Cond)
abbrev vwCl : List vw_C := [(RX3, TX3, 8), (RX4, TX4, 8), (RX5, TX5, 10), (RX6, TX6, 7), (RX7, TX7, 2), (RX8, TX8, 4), (RX9, TX9, 8), (RX10, TX10, 11)]
end
section
/-! MEMORY. A mill's cells have numbers 0 to 439 (Γ.2.2 gives the address); 'desc' says what a cell is: kind (0 row of ints, 1 of longs, 2 of booleans, 3 of results, 4 object), component (of an object: its class in vwCl), owner, length. A state gives by component, owner and place: ints (booleans too), longs, results. -/
abbrev Sg : Type := (Nat → Nat → Nat → Int32) × (Nat → Nat → Nat → Int64) × (Nat → Nat → Nat → Option Nat)
abbrev GG : Type := va_G × (Nat → ClassId) × (Nat → Nat)
def kT (t : Nat) : Nat := 42 + 4 * t
def kW (w : Nat) : Nat := 18 + 12 * w
def kR (r : Nat) : Nat := 170 + 9 * r
abbrev adr (Γ : GG) (k : Nat) : Nat := Γ.2.2 k
def desc (k : Nat) : Nat × Nat × Nat × Nat :=
  if k < 18 then (match k with
    | 0 => (4, 7, 0, 0) | 1 => (0, 0, 0, 800) | 2 => (0, 1, 0, 8) | 3 => (0, 2, 0, 8)
    | 4 => (4, 1, 0, 0) | 5 => (0, 6, 0, 128) | 6 => (0, 7, 0, 128) | 7 => (0, 8, 0, 64) | 8 => (0, 9, 0, 128) | 9 => (0, 10, 0, 128) | 10 => (0, 11, 0, 8) | 11 => (0, 12, 0, 8)
    | 12 => (4, 3, 0, 0) | 13 => (0, 13, 0, 8) | 14 => (0, 14, 0, 8) | 15 => (0, 15, 0, 8) | 16 => (0, 16, 0, 8) | _ => (0, 17, 0, 8))
  else if k < 42 then (match (k - 18) % 12 with
    | 0 => (4, 6, (k - 18) / 12, 0) | 1 => (4, 4, (k - 18) / 12, 0) | 2 => (3, 1, (k - 18) / 12, if (k - 18) / 12 = 0 then 10 else 0)
    | 3 => (3, 0, (k - 18) / 12, 8) | 4 => (3, 3, (k - 18) / 12, if (k - 18) / 12 = 0 then 19 else 9)
    | 5 => (4, 0, (k - 18) / 12, 0) | 6 => (3, 2, (k - 18) / 12, 8) | 7 => (0, 21, (k - 18) / 12, 128) | 8 => (0, 22, (k - 18) / 12, 256)
    | 9 => (2, 23, (k - 18) / 12, 128) | 10 => (0, 24, (k - 18) / 12, 128) | _ => (2, 25, (k - 18) / 12, 128))
  else if k < 170 then (match (k - 42) % 4 with
    | 0 => (4, 5, (k - 42) / 4, 0) | 1 => (0, 26, (k - 42) / 4, 128) | 2 => (0, 27, (k - 42) / 4, 40) | _ => (0, 28, (k - 42) / 4, 8))
  else (match (k - 170) % 9 with
    | 0 => (4, 2, (k - 170) / 9, 0) | 1 => (1, 0, (k - 170) / 9, 128) | 2 => (1, 1, (k - 170) / 9, 128) | 3 => (0, 31, (k - 170) / 9, 128)
    | 4 => (2, 32, (k - 170) / 9, 128) | 5 => (2, 33, (k - 170) / 9, 128) | 6 => (0, 34, (k - 170) / 9, 128) | 7 => (0, 35, (k - 170) / 9, 128) | _ => (0, 36, (k - 170) / 9, 128))
/-- the cell back from kind, component and owner -/
def undesc (q : Nat × Nat × Nat) : Nat := match q with
  | (1, c, o) => kR o + 1 + c
  | (3, c, o) => (match c with | 0 => kW o + 3 | 1 => kW o + 2 | 2 => kW o + 6 | _ => kW o + 4)
  | (4, c, o) => (match c with | 0 => kW o + 5 | 1 => 4 | 2 => kR o | 3 => 12 | 4 => kW o + 1 | 5 => kT o | 6 => kW o | _ => 0)
  | (_, c, o) => if c < 18 then (if c < 3 then c + 1 else if c < 13 then c - 1 else c) else if c < 26 then kW o + (c - 14) else if c < 29 then kT o + (c - 25) else kR o + (c - 28)
/-- kinds 0 and 2 lie in one store -/
def kd (n : Nat) : Nat := if n = 2 then 0 else n
theorem undesc_desc : ∀ k, k < 440 → undesc (kd (desc k).1, (desc k).2.1, (desc k).2.2.1) = k := by decide +kernel
/-- components of rows are no components of fields -/
def fldC (c : Nat) : Bool := c == 3 || c == 4 || c == 5 || c == 18 || c == 19 || c == 20 || c == 29 || c == 30
theorem desc_fld : ∀ k, k < 440 → kd (desc k).1 = 0 → fldC (desc k).2.1 = false := by decide +kernel
theorem desc_cls : ∀ k, k < 440 → (desc k).1 < 5 := by decide +kernel
def rrow (Γ : GG) (σ : Sg) (c o : Nat) : Nat → Option Nat := fun i => (σ.2.2 c o i).map (fun r => adr Γ (kR r))
def objF (Γ : GG) (σ : Sg) (ci o : Nat) : List Value := match ci with
  | 0 => [.ref (adr Γ 4), .ref (adr Γ (kW o + 6)), .ref (adr Γ (kW o + 7)), .int (σ.1 20 o 0), .ref (adr Γ (kW o + 8)), .ref (adr Γ (kW o + 9)), .ref (adr Γ (kW o + 10)), .ref (adr Γ (kW o + 11))]
  | 1 => [.ref (adr Γ (kT 0)), .ref (adr Γ 5), .ref (adr Γ 6), .ref (adr Γ 7), .ref (adr Γ 8), .ref (adr Γ 9), .ref (adr Γ 10), .ref (adr Γ 11)]
  | 2 => [.int (σ.1 30 o 0), .ref (adr Γ (kT (o + 2))), .ref (adr Γ (kR o + 1)), .ref (adr Γ (kR o + 2)), .ref (adr Γ (kR o + 3)), .ref (adr Γ (kR o + 4)), .ref (adr Γ (kR o + 5)), .ref (adr Γ (kR o + 6)), .ref (adr Γ (kR o + 7)), .ref (adr Γ (kR o + 8))]
  | 3 => [.ref (adr Γ (kT 0)), .ref (adr Γ 13), .ref (adr Γ 14), .ref (adr Γ 15), .ref (adr Γ 16), .ref (adr Γ 17), .int (σ.1 18 0 0)]
  | 4 => [.ref (adr Γ (kW o + 2)), .int (σ.1 19 o 0)]
  | 5 => [.ref (adr Γ (kT o + 1)), .ref (adr Γ (kT o + 2)), .ref (adr Γ (kT o + 3)), .int (σ.1 29 o 0)]
  | 6 => [.ref (adr Γ (kT o)), .ref (adr Γ 4), .ref (adr Γ 12), .ref (adr Γ (kW o + 5)), .ref (adr Γ (kW o + 1)), .ref (adr Γ (kW o + 3)), .ref (adr Γ (kR (20 * o))), .ref (adr Γ (kW o + 4))]
  | _ => [.ref (adr Γ (kT 0)), .ref (adr Γ 4), .ref (adr Γ 12), .ref (adr Γ (kW 0)), .ref (adr Γ (kW 1)), .ref (adr Γ 1), .ref (adr Γ 2), .ref (adr Γ 3), .int (σ.1 3 0 0), .int (σ.1 4 0 0), .int (σ.1 5 0 0)]
def cellQ (Γ : GG) (σ : Sg) (q : Nat × Nat × Nat × Nat) : va_E := match q with
  | (0, c, o, n) => .inl (Γ.2.1 0, n, .inl (σ.1 c o))
  | (1, c, o, n) => .inl (Γ.2.1 1, n, .inr (.inl (σ.2.1 c o)))
  | (2, c, o, n) => .inl (Γ.2.1 2, n, .inl (σ.1 c o))
  | (3, c, o, n) => .inl (Γ.2.1 3, n, .inr (.inr (.inr (.inr (rrow Γ σ c o)))))
  | (_, c, o, _) => .inr (c, objF Γ σ c o)
abbrev wd (Γ : GG) (σ : Sg) : va_W := (List.range 440).map (fun k => (adr Γ k, cellQ Γ σ (desc k)))
abbrev tyl (Γ : GG) : List (ClassId × FieldType) := [(Γ.2.1 0, .int), (Γ.2.1 1, .long), (Γ.2.1 2, .boolean), (Γ.2.1 3, .object RX5)]
/-- a row, a field, one place written -/
def rowI (σ : Sg) (c o : Nat) (f : Nat → Int32) : Sg := (fun c' o' => if c' = c ∧ o' = o then f else σ.1 c' o', σ.2)
def rowJ (σ : Sg) (c o : Nat) (f : Nat → Int64) : Sg := (σ.1, fun c' o' => if c' = c ∧ o' = o then f else σ.2.1 c' o', σ.2.2)
def rowP (σ : Sg) (c o : Nat) (f : Nat → Option Nat) : Sg := (σ.1, σ.2.1, fun c' o' => if c' = c ∧ o' = o then f else σ.2.2 c' o')
def wI (σ : Sg) (c o i : Nat) (v : Int32) : Sg := rowI σ c o (upd (σ.1 c o) i v)
def wJ (σ : Sg) (c o i : Nat) (v : Int64) : Sg := rowJ σ c o (vp_updL (σ.2.1 c o) i v)
def wP (σ : Sg) (c o i : Nat) (r : Nat) : Sg := rowP σ c o (va_up (σ.2.2 c o) i (some r))
theorem wd_get {Γ : GG} {σ : Sg} {k : Nat} (h : k < 440) : (wd Γ σ)[k]? = some (adr Γ k, cellQ Γ σ (desc k)) := by
  rw [List.getElem?_map, List.getElem?_range h]; rfl
theorem wd_len (Γ : GG) (σ : Sg) : (wd Γ σ).length = 440 := by simp [wd]
theorem wd_set {Γ : GG} {σ σ' : Sg} {k : Nat} (hk : k < 440) (h : ∀ j, j < 440 → j ≠ k → cellQ Γ σ' (desc j) = cellQ Γ σ (desc j)) : (wd Γ σ).set k (adr Γ k, cellQ Γ σ' (desc k)) = wd Γ σ' := by
  apply List.ext_getElem?
  intro j
  by_cases hj : j < 440
  · by_cases e : j = k
    · subst e
      rw [List.getElem?_set_self (by rw [wd_len]; exact hj), wd_get hj]
    · rw [List.getElem?_set_ne (Ne.symm e), wd_get hj, wd_get hj, h j hj e]
  · rw [List.getElem?_eq_none (by rw [List.length_set, wd_len]; omega), List.getElem?_eq_none (by rw [wd_len]; omega)]
theorem cellQ_ne {Γ : GG} {σ σ' : Sg} {q : Nat × Nat × Nat × Nat} (h0 : kd q.1 = 0 → σ'.1 q.2.1 q.2.2.1 = σ.1 q.2.1 q.2.2.1) (h1 : q.1 = 1 → σ'.2.1 q.2.1 q.2.2.1 = σ.2.1 q.2.1 q.2.2.1) (h3 : q.1 = 3 → σ'.2.2 q.2.1 q.2.2.1 = σ.2.2 q.2.1 q.2.2.1) (h4 : 4 ≤ q.1 → objF Γ σ' q.2.1 q.2.2.1 = objF Γ σ q.2.1 q.2.2.1) : cellQ Γ σ' q = cellQ Γ σ q := by
  obtain ⟨a, c, o, n⟩ := q
  dsimp only at h0 h1 h3 h4
  match a, h0, h1, h3, h4 with
  | 0, h0, _, _, _ => simp only [cellQ]; rw [h0 rfl]
  | 1, _, h1, _, _ => simp only [cellQ]; rw [h1 rfl]
  | 2, h0, _, _, _ => simp only [cellQ]; rw [h0 rfl]
  | 3, _, _, h3, _ =>
    have e : rrow Γ σ' c o = rrow Γ σ c o := by funext i; unfold rrow; rw [h3 rfl]
    simp only [cellQ]; rw [e]
  | a + 4, _, _, _, h4 => simp only [cellQ]; rw [h4 (by omega)]
theorem objF_ne {Γ : GG} {σ σ' : Sg} (h : ∀ c o, fldC c = true → σ'.1 c o 0 = σ.1 c o 0) (ci o : Nat) : objF Γ σ' ci o = objF Γ σ ci o := by
  unfold objF
  split <;> simp only [h 20 o rfl, h 30 o rfl, h 18 0 rfl, h 19 o rfl, h 29 o rfl, h 3 0 rfl, h 4 0 rfl, h 5 0 rfl]
theorem kd_inj {j k : Nat} (hj : j < 440) (hk : k < 440) (h1 : kd (desc j).1 = kd (desc k).1) (h2 : (desc j).2.1 = (desc k).2.1) (h3 : (desc j).2.2.1 = (desc k).2.2.1) : j = k := by
  rw [← undesc_desc j hj, ← undesc_desc k hk, h1, h2, h3]
theorem wd_rowI {Γ : GG} {σ : Sg} {k x c o n : Nat} {f : Nat → Int32} (hk : k < 440) (hd : desc k = (x, c, o, n)) (hx : x = 0 ∨ x = 2) : (wd Γ σ).set k (adr Γ k, .inl (Γ.2.1 x, n, .inl f)) = wd Γ (rowI σ c o f) := by
  have hkd : kd (desc k).1 = 0 := by rw [hd]; rcases hx with rfl | rfl <;> rfl
  have e : va_E := .inl (Γ.2.1 x, n, .inl f)
  have h9 : cellQ Γ (rowI σ c o f) (desc k) = .inl (Γ.2.1 x, n, .inl f) := by
    rw [hd]
    rcases hx with rfl | rfl <;> simp [cellQ, rowI]
  rw [← h9]
  refine wd_set hk (fun j hj hne => cellQ_ne (fun h0 => ?_) (fun _ => rfl) (fun _ => rfl) (fun _ => objF_ne (fun c' o' hc => ?_) _ _))
  · show (if _ ∧ _ then _ else _) = _
    rw [if_neg]
    rintro ⟨h2, h3⟩
    exact hne (kd_inj hj hk (by rw [h0, hkd]) (by rw [h2, hd]) (by rw [h3, hd]))
  · show (if c' = c ∧ o' = o then f else σ.1 c' o') 0 = _
    rw [if_neg]
    rintro ⟨h2, h3⟩
    have := desc_fld k hk hkd
    rw [hd] at this
    rw [h2] at hc
    rw [hc] at this
    cases this
theorem wd_rowJ {Γ : GG} {σ : Sg} {k c o n : Nat} {f : Nat → Int64} (hk : k < 440) (hd : desc k = (1, c, o, n)) : (wd Γ σ).set k (adr Γ k, .inl (Γ.2.1 1, n, .inr (.inl f))) = wd Γ (rowJ σ c o f) := by
  have h9 : cellQ Γ (rowJ σ c o f) (desc k) = .inl (Γ.2.1 1, n, .inr (.inl f)) := by
    rw [hd]; simp [cellQ, rowJ]
  rw [← h9]
  refine wd_set hk (fun j hj hne => cellQ_ne (fun h0 => rfl) (fun h1 => ?_) (fun _ => rfl) (fun _ => objF_ne (fun c' o' hc => rfl) _ _))
  show (if _ ∧ _ then _ else _) = _
  rw [if_neg]
  rintro ⟨h2, h3⟩
  exact hne (kd_inj hj hk (by rw [h1, hd]) (by rw [h2, hd]) (by rw [h3, hd]))
theorem wd_rowP {Γ : GG} {σ : Sg} {k c o n : Nat} {f : Nat → Option Nat} (hk : k < 440) (hd : desc k = (3, c, o, n)) : (wd Γ σ).set k (adr Γ k, .inl (Γ.2.1 3, n, .inr (.inr (.inr (.inr (fun i => (f i).map (fun r => adr Γ (kR r)))))))) = wd Γ (rowP σ c o f) := by
  have h9 : cellQ Γ (rowP σ c o f) (desc k) = .inl (Γ.2.1 3, n, .inr (.inr (.inr (.inr (fun i => (f i).map (fun r => adr Γ (kR r))))))) := by
    rw [hd]
    have e : rrow Γ (rowP σ c o f) c o = fun i => (f i).map (fun r => adr Γ (kR r)) := by funext i; simp [rrow, rowP]
    simp only [cellQ, e]
  rw [← h9]
  refine wd_set hk (fun j hj hne => cellQ_ne (fun h0 => rfl) (fun h1 => rfl) (fun h3' => ?_) (fun _ => objF_ne (fun c' o' hc => rfl) _ _))
  show (if _ ∧ _ then _ else _) = _
  rw [if_neg]
  rintro ⟨h2, h3⟩
  exact hne (kd_inj hj hk (by rw [h3', hd]) (by rw [h2, hd]) (by rw [h3, hd]))
/-- the int fields: class, place in the object, component -/
def fldOf (c : Nat) : Nat × Nat := match c with
  | 3 => (7, 8) | 4 => (7, 9) | 5 => (7, 10) | 18 => (3, 6) | 19 => (4, 1) | 20 => (0, 3) | 29 => (5, 3) | _ => (2, 0)
theorem objF_set {Γ : GG} {σ : Sg} {c o : Nat} {v : Int32} (hc : fldC c = true) (ho : (fldOf c).1 = 7 ∨ (fldOf c).1 = 3 → o = 0) : (objF Γ σ (fldOf c).1 o).set (fldOf c).2 (.int v) = objF Γ (wI σ c o 0 v) (fldOf c).1 o := by
  have h : c = 3 ∨ c = 4 ∨ c = 5 ∨ c = 18 ∨ c = 19 ∨ c = 20 ∨ c = 29 ∨ c = 30 := by
    simp only [fldC, Bool.or_eq_true, beq_iff_eq] at hc; omega
  rcases h with rfl | rfl | rfl | rfl | rfl | rfl | rfl | rfl
  all_goals first
    | (have h0 : o = 0 := ho (by decide)
       subst h0
       simp [objF, fldOf, wI, rowI, upd])
    | simp [objF, fldOf, wI, rowI, upd]
theorem objF_other {Γ : GG} {σ : Sg} {c o ci o' : Nat} {v : Int32} (hc : fldC c = true) (hci : ci < 8) (hne : ¬ (ci = (fldOf c).1 ∧ o' = o)) (ho : ci = 7 ∨ ci = 3 → o' = 0) : objF Γ (wI σ c o 0 v) ci o' = objF Γ σ ci o' := by
  have h : c = 3 ∨ c = 4 ∨ c = 5 ∨ c = 18 ∨ c = 19 ∨ c = 20 ∨ c = 29 ∨ c = 30 := by
    simp only [fldC, Bool.or_eq_true, beq_iff_eq] at hc; omega
  have h2 : ci = 0 ∨ ci = 1 ∨ ci = 2 ∨ ci = 3 ∨ ci = 4 ∨ ci = 5 ∨ ci = 6 ∨ ci = 7 := by omega
  rcases h2 with rfl | rfl | rfl | rfl | rfl | rfl | rfl | rfl <;> rcases h with rfl | rfl | rfl | rfl | rfl | rfl | rfl | rfl <;> simp [fldOf] at hne ho <;> simp [objF, wI, rowI, upd] <;> (try subst ho) <;> (try simp_all) <;> (try omega)
theorem desc_obj : ∀ k, k < 440 → (desc k).1 = 4 → (desc k).2.1 < 8 ∧ ((desc k).2.1 = 7 ∨ (desc k).2.1 = 3 → (desc k).2.2.1 = 0) := by decide +kernel
theorem wd_fld {Γ : GG} {σ : Sg} {k c o n : Nat} {v : Int32} (hk : k < 440) (hc : fldC c = true) (hd : desc k = (4, (fldOf c).1, o, n)) : (wd Γ σ).set k (adr Γ k, .inr ((fldOf c).1, (objF Γ σ (fldOf c).1 o).set (fldOf c).2 (.int v))) = wd Γ (wI σ c o 0 v) := by
  have hob := desc_obj k hk (by rw [hd])
  rw [hd] at hob
  have h9 : cellQ Γ (wI σ c o 0 v) (desc k) = .inr ((fldOf c).1, (objF Γ σ (fldOf c).1 o).set (fldOf c).2 (.int v)) := by
    rw [hd, objF_set hc hob.2]; rfl
  rw [← h9]
  refine wd_set hk (fun j hj hne => cellQ_ne (fun h0 => ?_) (fun h1 => rfl) (fun h3 => rfl) (fun h4 => ?_))
  · show (if _ ∧ _ then _ else _) = _
    rw [if_neg]
    rintro ⟨h2, h3⟩
    have := desc_fld j hj h0
    rw [h2, hc] at this
    cases this
  · have h5 : (desc j).1 = 4 := by have := desc_cls j hj; omega
    have hoj := desc_obj j hj h5
    exact objF_other hc hoj.1 (fun ⟨e1, e2⟩ => hne (kd_inj hj hk (by rw [h5, hd]) (by rw [e1, hd]) (by rw [e2, hd]))) hoj.2
-- where the cells lie
theorem kT_lt {t : Nat} (h : t < 32) : kT t < 440 := by unfold kT; omega
theorem kW_lt {w : Nat} (h : w < 2) : kW w < 440 := by unfold kW; omega
theorem kR_lt {r : Nat} (h : r < 30) : kR r < 440 := by unfold kR; omega
theorem dT0 : ∀ t, t < 32 → desc (kT t) = (4, 5, t, 0) := by decide +kernel
theorem dT1 : ∀ t, t < 32 → desc (kT t + 1) = (0, 26, t, 128) := by decide +kernel
theorem dT2 : ∀ t, t < 32 → desc (kT t + 2) = (0, 27, t, 40) := by decide +kernel
theorem dT3 : ∀ t, t < 32 → desc (kT t + 3) = (0, 28, t, 8) := by decide +kernel
theorem lT1 : ∀ t, t < 32 → kT t + 1 < 440 := by decide +kernel
theorem lT2 : ∀ t, t < 32 → kT t + 2 < 440 := by decide +kernel
theorem lT3 : ∀ t, t < 32 → kT t + 3 < 440 := by decide +kernel
def lenP (c w : Nat) : Nat := match c with | 0 => 8 | 1 => (if w = 0 then 10 else 0) | 2 => 8 | _ => (if w = 0 then 19 else 9)
theorem dW0 : ∀ w, w < 2 → desc (kW w) = (4, 6, w, 0) := by decide +kernel
theorem dW1 : ∀ w, w < 2 → desc (kW w + 1) = (4, 4, w, 0) := by decide +kernel
theorem dW2 : ∀ w, w < 2 → desc (kW w + 2) = (3, 1, w, lenP 1 w) := by decide +kernel
theorem dW3 : ∀ w, w < 2 → desc (kW w + 3) = (3, 0, w, lenP 0 w) := by decide +kernel
theorem dW4 : ∀ w, w < 2 → desc (kW w + 4) = (3, 3, w, lenP 3 w) := by decide +kernel
theorem dW5 : ∀ w, w < 2 → desc (kW w + 5) = (4, 0, w, 0) := by decide +kernel
theorem dW6 : ∀ w, w < 2 → desc (kW w + 6) = (3, 2, w, lenP 2 w) := by decide +kernel
theorem dW7 : ∀ w, w < 2 → desc (kW w + 7) = (0, 21, w, 128) := by decide +kernel
theorem dW8 : ∀ w, w < 2 → desc (kW w + 8) = (0, 22, w, 256) := by decide +kernel
theorem dW9 : ∀ w, w < 2 → desc (kW w + 9) = (2, 23, w, 128) := by decide +kernel
theorem dW10 : ∀ w, w < 2 → desc (kW w + 10) = (0, 24, w, 128) := by decide +kernel
theorem dW11 : ∀ w, w < 2 → desc (kW w + 11) = (2, 25, w, 128) := by decide +kernel
theorem lW : ∀ w, w < 2 → ∀ j, j < 12 → kW w + j < 440 := by decide +kernel
theorem dR0 : ∀ r, r < 30 → desc (kR r) = (4, 2, r, 0) := by decide +kernel
theorem dR1 : ∀ r, r < 30 → desc (kR r + 1) = (1, 0, r, 128) := by decide +kernel
theorem dR2 : ∀ r, r < 30 → desc (kR r + 2) = (1, 1, r, 128) := by decide +kernel
theorem dR3 : ∀ r, r < 30 → desc (kR r + 3) = (0, 31, r, 128) := by decide +kernel
theorem dR4 : ∀ r, r < 30 → desc (kR r + 4) = (2, 32, r, 128) := by decide +kernel
theorem dR5 : ∀ r, r < 30 → desc (kR r + 5) = (2, 33, r, 128) := by decide +kernel
theorem dR6 : ∀ r, r < 30 → desc (kR r + 6) = (0, 34, r, 128) := by decide +kernel
theorem dR7 : ∀ r, r < 30 → desc (kR r + 7) = (0, 35, r, 128) := by decide +kernel
theorem dR8 : ∀ r, r < 30 → desc (kR r + 8) = (0, 36, r, 128) := by decide +kernel
theorem lR : ∀ r, r < 30 → ∀ j, j < 9 → kR r + j < 440 := by decide +kernel
end
section
/-! ROWS over the whole memory: one for each kind of access, call and end -/
abbrev wL : List Cond := wsL_law0
theorem inlX3 : ∀ w ∈ wsX30, w ∈ wL := fun _ h => List.mem_append_left _ (List.mem_append_right _ h)
theorem inlX4 : ∀ w ∈ wsX40, w ∈ wL := fun _ h => List.mem_append_left _ (List.mem_append_left _ (List.mem_append_left _ (List.mem_append_left _ (List.mem_append_left _ (List.mem_append_left _ (List.mem_append_right _ h))))))
theorem inlX5 : ∀ w ∈ wsX50, w ∈ wL := fun _ h => List.mem_append_left _ (List.mem_append_left _ (List.mem_append_right _ h))
theorem inlX6 : ∀ w ∈ wsX60, w ∈ wL := fun _ h => List.mem_append_left _ (List.mem_append_left _ (List.mem_append_left _ (List.mem_append_left _ (List.mem_append_left _ (List.mem_append_right _ h)))))
theorem inlX7 : ∀ w ∈ wsX70, w ∈ wL := fun _ h => List.mem_append_left _ (List.mem_append_left _ (List.mem_append_left _ (List.mem_append_right _ h)))
theorem inlX8 : ∀ w ∈ wsX80, w ∈ wL := fun _ h => List.mem_append_left _ (List.mem_append_left _ (List.mem_append_left _ (List.mem_append_left _ (List.mem_append_left _ (List.mem_append_left _ (List.mem_append_left _ (List.mem_append_right _ h)))))))
theorem inlX9 : ∀ w ∈ wsX90, w ∈ wL := fun _ h => List.mem_append_left _ (List.mem_append_left _ (List.mem_append_left _ (List.mem_append_left _ (List.mem_append_right _ h))))
theorem inlX10 : ∀ w ∈ wsX100, w ∈ wL := fun _ h => List.mem_append_left _ (List.mem_append_left _ (List.mem_append_left _ (List.mem_append_left _ (List.mem_append_left _ (List.mem_append_left _ (List.mem_append_left _ (List.mem_append_left _ (List.mem_append_right _ h))))))))
theorem wL_good : wL.all goodWord = true := by decide +kernel
def IJ (Γ : GG) : Prop := ∀ i j, i < 440 → j < 440 → adr Γ i = adr Γ j → i = j
def IA (Γ : GG) : Nat → Prop := fun q => ∃ k, k < 440 ∧ q = adr Γ k
/-- a nest mate's private method -/
abbrev wN : Cond := .methodLinkNest RX3 108 yX10_clear RX10
def CP (Γ : GG) (σ : Sg) (U : State) : Prop := va_P Γ.1 vwCl (wd Γ σ) U.heap ∧ va_K Γ.1 vwCl (tyl Γ) U ∧ va_Nw wN U
/-- what a walk knows of its method -/
def MX (A : Nat → Prop) (Γ : GG) (p : Program) (s : State) (m : MethodId) (args : Array Value) (c : Code) (cc : ByteArray) (nL : Nat) (own : String) : Prop :=
  p.tables.exec = Jvm.exec ∧ c.code = cc ∧ c.maxLocals = nL ∧ s.vm.findClass own = some m.cls ∧ (∀ w ∈ wL, w.before args s = true) ∧ va_K Γ.1 vwCl (tyl Γ) s ∧ IJ Γ ∧ (∀ k, k < 440 → A (adr Γ k)) ∧ va_Nw wN s
/-- the memory at a moment -/
def HW (A : Nat → Prop) (Γ : GG) (σ : Sg) (H0 H : Heap) (locs : List Loc) : Prop := va_P Γ.1 vwCl (wd Γ σ) H ∧ va_S A H0 H locs
theorem wd_D {A : Nat → Prop} {Γ : GG} (σ : Sg) (hJ : IJ Γ) (hA : ∀ k, k < 440 → A (adr Γ k)) : va_D A (wd Γ σ) := by
  have key : ∀ (k : Nat) (q : Nat × va_E), (wd Γ σ)[k]? = some q → k < 440 ∧ q.1 = adr Γ k := by
    intro k q hk
    have hl := (List.getElem?_eq_some_iff.mp hk).1
    rw [wd_len] at hl
    rw [wd_get hl] at hk
    cases hk
    exact ⟨hl, rfl⟩
  refine ⟨fun i j x y hi hj hxy => ?_, fun k q hk => ?_⟩
  · obtain ⟨h1, h2⟩ := key i x hi
    obtain ⟨h3, h4⟩ := key j y hj
    exact hJ i j h1 h3 (by rw [← h2, ← h4, hxy])
  · obtain ⟨h1, h2⟩ := key k q hk
    rw [h2]; exact hA k h1
/-- a test; what it gives -/
def inb (x : Int32) (n : Nat) : Bool := decide (0 ≤ x.toInt) && decide (x.toInt < (n : Int))
theorem inb_vp {x : Int32} {n : Nat} (h : inb x n = true) : vp_in x n := by
  simp only [inb, Bool.and_eq_true, decide_eq_true_eq] at h
  exact vp_in_iff.mpr h
def chk {α : Type} (b : Bool) (k : Option α) : Option α := match b with
  | true => k
  | false => none
theorem chk_some {α : Type} {b : Bool} {k : Option α} {r : α} (h : chk b k = some r) : b = true ∧ k = some r := by
  cases b
  · cases h
  · exact ⟨rfl, h⟩
def bnd {α β : Type} (a : Option α) (k : α → Option β) : Option β := match a with
  | some x => k x
  | none => none
theorem bnd_some {α β : Type} {a : Option α} {k : α → Option β} {r : β} (h : bnd a k = some r) : ∃ x, a = some x ∧ k x = some r := by
  cases a with
  | none => cases h
  | some x => exact ⟨x, rfl, h⟩
def bnd2 {α β γ : Type} (a : Option (α × β)) (k : α → β → Option γ) : Option γ := match a with
  | some x => k x.1 x.2
  | none => none
theorem bnd2_some {α β γ : Type} {a : Option (α × β)} {k : α → β → Option γ} {r : γ} (h : bnd2 a k = some r) : ∃ x y, a = some (x, y) ∧ k x y = some r := by
  cases a with
  | none => cases h
  | some x => exact ⟨x.1, x.2, rfl, h⟩
def st {α β : Type} (x : α) (k : α → Option β) : Option β := k x
theorem st_some {α β : Type} {x : α} {k : α → Option β} {r : β} (h : st x k = some r) : ∃ y, y = x ∧ k y = some r := ⟨x, rfl, h⟩
theorem if_t {α : Type} {c : Prop} [Decidable c] {a b : Option α} {r : α} (h : (if c then a else b) = some r) (hc : c) : a = some r := by rwa [if_pos hc] at h
theorem if_f {α : Type} {c : Prop} [Decidable c] {a b : Option α} {r : α} (h : (if c then a else b) = some r) (hc : ¬ c) : b = some r := by rwa [if_neg hc] at h
def zb (x : Int32) : Bool := x == 0 || x == 1
theorem zb_nar {x : Int32} (h : zb x = true) : narrow .boolean (.int x) = .int x := by
  simp only [zb, Bool.or_eq_true, beq_iff_eq] at h
  rcases h with rfl | rfl <;> rfl
theorem zb_vp {x : Int32} (h : zb x = true) : vp_nar .boolean x = x := by
  simp only [zb, Bool.or_eq_true, beq_iff_eq] at h
  rcases h with rfl | rfl <;> rfl
section ROWS
variable {p : Program} {l : Launch} {e : Env} {R : Room} {s : State} {m : MethodId} {args : Array Value} {below : List Frame} {meth : Method} {c : Code} {H : Heap} {locs : List Loc} {cells slots : Nat} {Q : State → Prop}
variable {cc : ByteArray} {pc nL : Nat} {ls : Array Slot} {rest : List Value} {own : String} {A : Nat → Prop} {Γ : GG} {σ : Sg} {H0 : Heap}
theorem MX.hx (X : MX A Γ p s m args c cc nL own) : p.tables.exec = Jvm.exec := X.1
theorem MX.hb (X : MX A Γ p s m args c cc nL own) : c.code = cc := X.2.1
theorem MX.hts (X : MX A Γ p s m args c cc nL own) : ∀ w ∈ wL, w.before args s = true := X.2.2.2.2.1
theorem MX.D (X : MX A Γ p s m args c cc nL own) (σ : Sg) : va_D A (wd Γ σ) := wd_D σ X.2.2.2.2.2.2.1 X.2.2.2.2.2.2.2.1
theorem r_get (X : MX A Γ p s m args c cc nL own) (hH : HW A Γ σ H0 H locs) {k ci o n index N : Nat} {C : String} {T : u_T} (hk : k < 440) (hd : desc k = (4, ci, o, n)) (hc : vwCl[ci]? = some (C, T, N)) (hin : ∀ w ∈ u_ws C T N, w ∈ wL) (j : Nat) (hj : j < N) {v : Value} (hv : (objF Γ σ ci o)[j]? = some v)
    (hw : Cond.fieldLink own index (T j).1 (T j).2.1 (T j).2.2.1 ∈ wL) (hdg : decode cc pc = .ok (.getfield index, 3))
    (kk : W p l e R s m args below meth c H locs cells slots Q (F0 m (pc + 3) ls (v :: rest))) : W p l e R s m args below meth c H locs cells slots Q (F0 m pc ls (.ref (adr Γ k) :: rest)) := by
  refine va_get (ci := ci) X.1 X.2.1 X.2.2.2.2.1 hin X.2.2.2.1 X.2.2.2.2.2.1 hH.1 k (fs := objF Γ σ ci o) ?_ hc j hj (X.2.2.2.2.1 _ hw) (fun _ h => h) hv hdg kk
  rw [wd_get hk, hd]; rfl
theorem r_putI (X : MX A Γ p s m args c cc nL own) (hH : HW A Γ σ H0 H locs) {k co o n index N : Nat} {C : String} {T : u_T} (hk : k < 440) (hco : fldC co = true) (hd : desc k = (4, (fldOf co).1, o, n)) (hc : vwCl[(fldOf co).1]? = some (C, T, N)) (hin : ∀ w ∈ u_ws C T N, w ∈ wL) (ty0 : Nat → FieldType) (hty : ∀ k, k < N → parseFieldDescriptor (T k).2.2.1 = some (ty0 k)) (hnm : ∀ a, a < N → ∀ b, b < N → a ≠ b → (T a).2.1 ≠ (T b).2.1)
    (hj : (fldOf co).2 < N) (hl : (fldOf co).2 < (objF Γ σ (fldOf co).1 o).length) {v : Int32} (hfin : (T (fldOf co).2).2.2.2 = false) (hpd : parseFieldDescriptor (T (fldOf co).2).2.2.1 = some .int)
    (hw : Cond.fieldLink own index (T (fldOf co).2).1 (T (fldOf co).2).2.1 (T (fldOf co).2).2.2.1 ∈ wL) (hdg : decode cc pc = .ok (.putfield index, 3))
    (kk : ∀ H1 locs1, HW A Γ (wI σ co o 0 v) H0 H1 locs1 → W p l e R s m args below meth c H1 locs1 cells slots Q (F0 m (pc + 3) ls rest)) : W p l e R s m args below meth c H locs cells slots Q (F0 m pc ls (.int v :: .ref (adr Γ k) :: rest)) := by
  refine va_put (ci := (fldOf co).1) X.1 X.2.1 X.2.2.2.2.1 hin ty0 hty hnm X.2.2.2.1 X.2.2.2.2.2.1 hH.1 (X.D σ) hH.2 k (fs := objF Γ σ (fldOf co).1 o) ?_ hc (fldOf co).2 hj (X.2.2.2.2.1 _ hw) (fun _ h => h) hfin hpd rfl rfl hl hdg (fun H1 locs1 hP _ hS => kk H1 locs1 ⟨?_, hS⟩)
  · rw [wd_get hk, hd]; rfl
  · rw [wd_fld hk hco hd] at hP; exact hP
theorem r_ild (X : MX A Γ p s m args c cc nL own) (hH : HW A Γ σ H0 H locs) {k co o n : Nat} (hk : k < 440) (hd : desc k = (0, co, o, n)) {i : Int32} (hin : inb i n = true) (hdg : decode cc pc = .ok (.iaload, 1))
    (kk : W p l e R s m args below meth c H locs cells slots Q (F0 m (pc + 1) ls (.int (σ.1 co o i.toNatClampNeg) :: rest))) : W p l e R s m args below meth c H locs cells slots Q (F0 m pc ls (.int i :: .ref (adr Γ k) :: rest)) :=
  va_iald X.1 X.2.1 X.2.2.2.2.2.1 hH.1 k 0 (cA := Γ.2.1 0) (n := n) (f := σ.1 co o) (by rw [wd_get hk, hd]; rfl) rfl (inb_vp hin) hdg kk
theorem r_zld (X : MX A Γ p s m args c cc nL own) (hH : HW A Γ σ H0 H locs) {k co o n : Nat} (hk : k < 440) (hd : desc k = (2, co, o, n)) {i : Int32} (hin : inb i n = true) (hdg : decode cc pc = .ok (.baload, 1))
    (kk : W p l e R s m args below meth c H locs cells slots Q (F0 m (pc + 1) ls (.int (σ.1 co o i.toNatClampNeg) :: rest))) : W p l e R s m args below meth c H locs cells slots Q (F0 m pc ls (.int i :: .ref (adr Γ k) :: rest)) :=
  va_zald X.1 X.2.1 X.2.2.2.2.2.1 hH.1 k 2 (cA := Γ.2.1 2) (n := n) (f := σ.1 co o) (by rw [wd_get hk, hd]; rfl) rfl (inb_vp hin) hdg kk
theorem r_lld (X : MX A Γ p s m args c cc nL own) (hH : HW A Γ σ H0 H locs) {k co o n : Nat} (hk : k < 440) (hd : desc k = (1, co, o, n)) {i : Int32} (hin : inb i n = true) (hdg : decode cc pc = .ok (.laload, 1))
    (kk : W p l e R s m args below meth c H locs cells slots Q (F0 m (pc + 1) ls (.long (σ.2.1 co o i.toNatClampNeg) :: rest))) : W p l e R s m args below meth c H locs cells slots Q (F0 m pc ls (.int i :: .ref (adr Γ k) :: rest)) :=
  va_lald X.1 X.2.1 X.2.2.2.2.2.1 hH.1 k 1 (cA := Γ.2.1 1) (n := n) (f := σ.2.1 co o) (by rw [wd_get hk, hd]; rfl) rfl (inb_vp hin) hdg kk
theorem r_ald (X : MX A Γ p s m args c cc nL own) (hH : HW A Γ σ H0 H locs) {k co o n r : Nat} (hk : k < 440) (hd : desc k = (3, co, o, n)) {i : Int32} (hin : inb i n = true) (hr : σ.2.2 co o i.toNatClampNeg = some r) (hdg : decode cc pc = .ok (.aaload, 1))
    (kk : W p l e R s m args below meth c H locs cells slots Q (F0 m (pc + 1) ls (.ref (adr Γ (kR r)) :: rest))) : W p l e R s m args below meth c H locs cells slots Q (F0 m pc ls (.int i :: .ref (adr Γ k) :: rest)) := by
  refine va_aldq X.1 X.2.1 X.2.2.2.2.2.1 hH.1 k 3 (cA := Γ.2.1 3) (n := n) (f := rrow Γ σ co o) (by rw [wd_get hk, hd]; rfl) rfl (inb_vp hin) hdg ?_
  rw [rrow, hr]; exact kk
theorem r_ist (X : MX A Γ p s m args c cc nL own) (hH : HW A Γ σ H0 H locs) {k co o n : Nat} (hk : k < 440) (hd : desc k = (0, co, o, n)) {i x : Int32} (hin : inb i n = true) (hdg : decode cc pc = .ok (.iastore, 1))
    (kk : ∀ H1 locs1, HW A Γ (wI σ co o i.toNatClampNeg x) H0 H1 locs1 → W p l e R s m args below meth c H1 locs1 cells slots Q (F0 m (pc + 1) ls rest)) : W p l e R s m args below meth c H locs cells slots Q (F0 m pc ls (.int x :: .int i :: .ref (adr Γ k) :: rest)) :=
  va_iast X.1 X.2.1 X.2.2.2.2.2.1 hH.1 (X.D σ) hH.2 k 0 (cA := Γ.2.1 0) (n := n) (f := σ.1 co o) (by rw [wd_get hk, hd]; rfl) rfl (inb_vp hin) hdg (fun H1 locs1 hP _ hS => kk H1 locs1 ⟨by rw [wd_rowI hk hd (Or.inl rfl)] at hP; exact hP, hS⟩)
theorem r_zst (X : MX A Γ p s m args c cc nL own) (hH : HW A Γ σ H0 H locs) {k co o n : Nat} (hk : k < 440) (hd : desc k = (2, co, o, n)) {i x : Int32} (hin : inb i n = true) (hx : zb x = true) (hdg : decode cc pc = .ok (.bastore, 1))
    (kk : ∀ H1 locs1, HW A Γ (wI σ co o i.toNatClampNeg x) H0 H1 locs1 → W p l e R s m args below meth c H1 locs1 cells slots Q (F0 m (pc + 1) ls rest)) : W p l e R s m args below meth c H locs cells slots Q (F0 m pc ls (.int x :: .int i :: .ref (adr Γ k) :: rest)) :=
  va_zast X.1 X.2.1 X.2.2.2.2.2.1 hH.1 (X.D σ) hH.2 k 2 (cA := Γ.2.1 2) (n := n) (f := σ.1 co o) (by rw [wd_get hk, hd]; rfl) rfl (inb_vp hin) hdg (fun H1 locs1 hP _ hS => kk H1 locs1 ⟨by rw [zb_vp hx, wd_rowI hk hd (Or.inr rfl)] at hP; exact hP, hS⟩)
theorem r_lst (X : MX A Γ p s m args c cc nL own) (hH : HW A Γ σ H0 H locs) {k co o n : Nat} (hk : k < 440) (hd : desc k = (1, co, o, n)) {i : Int32} {x : Int64} (hin : inb i n = true) (hdg : decode cc pc = .ok (.lastore, 1))
    (kk : ∀ H1 locs1, HW A Γ (wJ σ co o i.toNatClampNeg x) H0 H1 locs1 → W p l e R s m args below meth c H1 locs1 cells slots Q (F0 m (pc + 1) ls rest)) : W p l e R s m args below meth c H locs cells slots Q (F0 m pc ls (.long x :: .int i :: .ref (adr Γ k) :: rest)) :=
  va_last X.1 X.2.1 X.2.2.2.2.2.1 hH.1 (X.D σ) hH.2 k 1 (cA := Γ.2.1 1) (n := n) (f := σ.2.1 co o) (by rw [wd_get hk, hd]; rfl) rfl (inb_vp hin) hdg (fun H1 locs1 hP _ hS => kk H1 locs1 ⟨by rw [wd_rowJ hk hd] at hP; exact hP, hS⟩)
theorem r_ast (X : MX A Γ p s m args c cc nL own) (hH : HW A Γ σ H0 H locs) {k co o n r : Nat} (hk : k < 440) (hd : desc k = (3, co, o, n)) {i : Int32} (hin : inb i n = true) (hr : r < 30) (hdg : decode cc pc = .ok (.aastore, 1))
    (kk : ∀ H1 locs1, HW A Γ (wP σ co o i.toNatClampNeg r) H0 H1 locs1 → W p l e R s m args below meth c H1 locs1 cells slots Q (F0 m (pc + 1) ls rest)) : W p l e R s m args below meth c H locs cells slots Q (F0 m pc ls (.ref (adr Γ (kR r)) :: .int i :: .ref (adr Γ k) :: rest)) := by
  refine va_astq X.1 X.2.1 X.2.2.2.2.2.1 hH.1 (X.D σ) hH.2 k 3 (kR r) 2 (cA := Γ.2.1 3) (n := n) (f := rrow Γ σ co o) (vs := objF Γ σ 2 r) (r := (RX5, TX5, 10)) (by rw [wd_get hk, hd]; rfl) rfl (by rw [wd_get (kR_lt hr), dR0 r hr]; rfl) rfl (inb_vp hin) hdg (fun H1 locs1 hP _ hS => kk H1 locs1 ⟨?_, hS⟩)
  have h9 : va_up (rrow Γ σ co o) i.toNatClampNeg (some (adr Γ (kR r))) = fun j => (va_up (σ.2.2 co o) i.toNatClampNeg (some r) j).map (fun r => adr Γ (kR r)) := by
    funext j
    unfold va_up rrow
    split <;> rfl
  rw [h9, wd_rowP hk hd] at hP
  exact hP
theorem r_len (X : MX A Γ p s m args c cc nL own) (hH : HW A Γ σ H0 H locs) {k kn co o n : Nat} (hk : k < 440) (hd : desc k = (kn, co, o, n)) (hkn : kn < 4) {v : Int32} (hv : Int32.ofNat n = v) (hdg : decode cc pc = .ok (.arraylength, 1))
    (kk : W p l e R s m args below meth c H locs cells slots Q (F0 m (pc + 1) ls (.int v :: rest))) : W p l e R s m args below meth c H locs cells slots Q (F0 m pc ls (.ref (adr Γ k) :: rest)) := by
  have h9 : ∃ x : vp_A, cellQ Γ σ (desc k) = .inl (Γ.2.1 kn, x) ∧ x.1 = n := by
    rw [hd]
    have h : kn = 0 ∨ kn = 1 ∨ kn = 2 ∨ kn = 3 := by omega
    rcases h with rfl | rfl | rfl | rfl <;> exact ⟨_, rfl, rfl⟩
  obtain ⟨x, h1, h2⟩ := h9
  have h3 : ∃ ty, (tyl Γ)[kn]? = some (Γ.2.1 kn, ty) := by
    have h : kn = 0 ∨ kn = 1 ∨ kn = 2 ∨ kn = 3 := by omega
    rcases h with rfl | rfl | rfl | rfl <;> exact ⟨_, rfl⟩
  obtain ⟨ty, h3⟩ := h3
  exact va_alen X.1 X.2.1 X.2.2.2.2.2.1 hH.1 k kn (cA := Γ.2.1 kn) (x := x) (by rw [wd_get hk, h1]) h3 (by rw [h2]; exact hv) hdg kk
theorem r_anelo (X : MX A Γ p s m args c cc nL own) {r1 r2 : Nat} (h1 : r1 < 30) (h2 : r2 < 30) {off : Int} {tgt : Nat} (hdg : decode cc pc = .ok (.if_acmp .ne off, 3)) (ht : (pc : Int) + off = (tgt : Int))
    (kt : ¬ r1 = r2 → W p l e R s m args below meth c H locs cells slots Q (F0 m tgt ls rest)) (kf : r1 = r2 → W p l e R s m args below meth c H locs cells slots Q (F0 m (pc + 3) ls rest)) : W p l e R s m args below meth c H locs cells slots Q (F0 m pc ls (.ref (adr Γ (kR r2)) :: .ref (adr Γ (kR r1)) :: rest)) :=
  lv_acmp_ne (rx := some (adr Γ (kR r1))) (ry := some (adr Γ (kR r2))) X.1 X.2.1 hdg ht (fun h => kt (fun q => h (by rw [q]))) (fun h => kf (by
    have := X.2.2.2.2.2.2.1 (kR r1) (kR r2) (kR_lt h1) (kR_lt h2) (Option.some.inj h)
    unfold kR at this; omega))
theorem r_copy (X : MX A Γ p s m args c cc nL own) (hml : c.maxLocals = ls.size) (hH : HW A Γ σ H0 H locs) {k0 k1 c0 c1 o0 o1 n index : Nat} (hk0 : k0 < 440) (hk1 : k1 < 440) (hd0 : desc k0 = (0, c0, o0, n)) (hd1 : desc k1 = (0, c1, o1, n)) {z : Int32} (hz : Int32.ofNat n = z) (hn : n < 2147483648) (hwl : Cond.methodLink own index arraycopyName ∈ wL) (hw1 : Cond.native arraycopyName ∈ wL) (hw2 : Cond.static arraycopyName ∈ wL) (hw3 : Cond.initialized "java/lang/System" ∈ wL)
    (hframes : 1 ≤ R.frames) (hlocals : (rest.map fun v => v.category).sum + (nativeFrameWords "java/lang/System" "arraycopy" 5 + 11) ≤ R.locals) (hdg : decode cc pc = .ok (.invokestatic index, 3))
    (kk : ∀ H1 locs1, HW A Γ (rowI σ c1 o1 (va_cpy (σ.1 c0 o0) (σ.1 c1 o1) 0 0 n)) H0 H1 locs1 → W p l e R s m args below meth c H1 locs1 cells slots Q (F0 m (pc + 3) ls rest)) : W p l e R s m args below meth c H locs cells slots Q (F0 m pc ls (.int z :: .int 0 :: .ref (adr Γ k1) :: .int 0 :: .ref (adr Γ k0) :: rest)) := by
  have hz1 : z.toNatClampNeg = n := by rw [← hz]; exact nI_clamp hn
  have hz2 : ¬ z < 0 := by rw [← hz]; exact nI_pos hn
  refine va_copyi X.1 X.2.1 hml X.2.2.2.1 (X.2.2.2.2.1 _ hwl) (X.2.2.2.2.1 _ hw1) (X.2.2.2.2.1 _ hw2) (X.2.2.2.2.1 _ hw3) X.2.2.2.2.2.1 hH.1 (X.D σ) hH.2 k0 k1 0 0 (c0 := Γ.2.1 0) (c1 := Γ.2.1 0) (n0 := n) (n1 := n) (f := σ.1 c0 o0) (g := σ.1 c1 o1) (by rw [wd_get hk0, hd0]; rfl) (by rw [wd_get hk1, hd1]; rfl) rfl rfl rfl (by decide) (by decide) hz2 (by rw [hz1]; simp) (by rw [hz1]; simp) (fun _ _ => rfl) hframes hlocals hdg (fun H1 locs1 hP _ hS => kk H1 locs1 ⟨?_, hS⟩)
  rw [hz1, wd_rowI hk1 hd1 (Or.inl rfl)] at hP
  exact hP
-- contracts
abbrev CI (l : Launch) (y : MethodName) (ws : List Cond) (rm : Room) (Γ : GG) (σ : Sg) (as : List Value) (σ' : Sg) (r : Int32) : Prop := Met l y ws rm (va_Pc as (CP Γ σ)) (va_Qi (fun (x : Int32) (_ : Unit) => x = r) (fun _ t => CP Γ σ' t) (IA Γ)) 0 0 (IA Γ)
abbrev CL (l : Launch) (y : MethodName) (ws : List Cond) (rm : Room) (Γ : GG) (σ : Sg) (as : List Value) (σ' : Sg) (r : Int64) : Prop := Met l y ws rm (va_Pc as (CP Γ σ)) (va_Ql (fun (x : Int64) (_ : Unit) => x = r) (fun _ t => CP Γ σ' t) (IA Γ)) 0 0 (IA Γ)
abbrev CV (l : Launch) (y : MethodName) (ws : List Cond) (rm : Room) (Γ : GG) (σ : Sg) (as : List Value) (σ' : Sg) (_ : Unit) : Prop := Met l y ws rm (va_Pc as (CP Γ σ)) (va_Qv (fun (_ : Unit) => True) (fun _ t => CP Γ σ' t) (IA Γ)) 0 0 (IA Γ)
abbrev CR (l : Launch) (y : MethodName) (ws : List Cond) (rm : Room) (Γ : GG) (σ : Sg) (as : List Value) (σ' : Sg) (r : Nat) : Prop := Met l y ws rm (va_Pc as (CP Γ σ)) (va_Qr (fun (_ : Unit) => True) (fun _ a t => a = adr Γ (kR r) ∧ CP Γ σ' t) (IA Γ)) 0 0 (IA Γ)
abbrev QI (Γ : GG) (σ' : Sg) (r : Int32) (below : List Frame) (args : Array Value) (s : State) : State → Prop := MQ below (va_Qi (fun (x : Int32) (_ : Unit) => x = r) (fun _ t => CP Γ σ' t) (IA Γ)) args s 0 0 (IA Γ)
abbrev QL (Γ : GG) (σ' : Sg) (r : Int64) (below : List Frame) (args : Array Value) (s : State) : State → Prop := MQ below (va_Ql (fun (x : Int64) (_ : Unit) => x = r) (fun _ t => CP Γ σ' t) (IA Γ)) args s 0 0 (IA Γ)
abbrev QV (Γ : GG) (σ' : Sg) (_ : Unit) (below : List Frame) (args : Array Value) (s : State) : State → Prop := MQ below (va_Qv (fun (_ : Unit) => True) (fun _ t => CP Γ σ' t) (IA Γ)) args s 0 0 (IA Γ)
abbrev QR (Γ : GG) (σ' : Sg) (r : Nat) (below : List Frame) (args : Array Value) (s : State) : State → Prop := MQ below (va_Qr (fun (_ : Unit) => True) (fun _ a t => a = adr Γ (kR r) ∧ CP Γ σ' t) (IA Γ)) args s 0 0 (IA Γ)
/-- .. in a method's own walk -/
def MB (Γ : GG) (p : Program) (s : State) (m : MethodId) (args : Array Value) (meth : Method) (c : Code) (cc : ByteArray) (nL : Nat) (own : String) (ret : Option FieldType) : Prop := MX (IA Γ) Γ p s m args c cc nL own ∧ meth.sig.returnType = ret ∧ meth.locks = false
theorem CP.of (X : MX A Γ p s m args c cc nL own) (hH : HW A Γ σ H0 H locs) {t : State} (ht : t.heap = H) (hW : s.WarmedH t.vm) : CP Γ σ t := ⟨by rw [ht]; exact hH.1, va_K.moved hW.alike X.2.2.2.2.2.1, va_Nw.warmM hW X.2.2.2.2.2.2.2.2⟩
theorem e_int {ret : FieldType} (X : MB Γ p s m args meth c cc nL own (some ret)) (hH : HW (IA Γ) Γ σ s.heap H locs) {v : Int32} (hn : narrow ret (.int v) = .int v) (hdg : decode cc pc = .ok (.ireturn, 1)) : W p l e R s m args below meth c H locs 0 0 (QI Γ σ v below args s) (F0 m pc ls [.int v]) :=
  W.zret X.1.1 X.1.2.1 X.2.1 hn (fun t ht hW => ⟨⟨v, (), rfl, rfl, CP.of X.1 hH ht hW⟩, hH.2.F ht⟩) hH.2.2.2 hdg (hlocks := X.2.2)
theorem e_long (X : MB Γ p s m args meth c cc nL own (some .long)) (hH : HW (IA Γ) Γ σ s.heap H locs) {v : Int64} (hdg : decode cc pc = .ok (.lreturn, 1)) : W p l e R s m args below meth c H locs 0 0 (QL Γ σ v below args s) (F0 m pc ls [.long v]) :=
  W.lret X.1.1 X.1.2.1 X.2.1 (fun t ht hW => ⟨⟨v, (), rfl, rfl, CP.of X.1 hH ht hW⟩, hH.2.F ht⟩) hH.2.2.2 hdg (hlocks := X.2.2)
theorem e_void (X : MB Γ p s m args meth c cc nL own none) (hH : HW (IA Γ) Γ σ s.heap H locs) {v : Unit} (hdg : decode cc pc = .ok (.return_, 1)) : W p l e R s m args below meth c H locs 0 0 (QV Γ σ v below args s) (F0 m pc ls []) :=
  W.vret X.1.1 X.1.2.1 X.2.1 (fun t ht hW => ⟨⟨(), rfl, trivial, CP.of X.1 hH ht hW⟩, hH.2.F ht⟩) hH.2.2.2 hdg (hlocks := X.2.2)
theorem e_ref {C : String} (X : MB Γ p s m args meth c cc nL own (some (.object C))) (hH : HW (IA Γ) Γ σ s.heap H locs) {r : Nat} (hdg : decode cc pc = .ok (.areturn, 1)) : W p l e R s m args below meth c H locs 0 0 (QR Γ σ r below args s) (F0 m pc ls [.ref (adr Γ (kR r))]) :=
  W.aret X.1.1 X.1.2.1 X.2.1 (Or.inl ⟨C, rfl⟩) (Or.inr ⟨_, rfl⟩) (fun t ht hW => ⟨⟨(), _, rfl, trivial, rfl, CP.of X.1 hH ht hW⟩, hH.2.F ht⟩) hH.2.2.2 hdg (hlocks := X.2.2)
-- calls
variable {y : MethodName} {bytes : ByteArray} {maxL n index : Nat} {ret : Option FieldType} {rm : Room} {As st0 : List Value} {σ' : Sg} {lv : List (Nat × Value)}
theorem cp_blind {as : List Value} : FrameBlind (va_Pc as (CP Γ σ)) := fun a U g mk q => ⟨q.1, q.2.1, va_K.moved (u := U) (U := U.calling g mk a) (Vm.Alike.refl U.vm) q.2.2.1, va_Nw.same (u := U) (U := U.calling g mk a) rfl rfl q.2.2.2⟩
theorem cp_pre (X : MX A Γ p s m args c cc nL own) (hH : HW A Γ σ H0 H locs) {as : List Value} : ∀ U : State, U.heap = H → s.WarmedH U.vm → va_Pc as (CP Γ σ) as.toArray U := fun U hU hW => ⟨rfl, CP.of X hH hU hW⟩
theorem ia_in (X : MX A Γ p s m args c cc nL own) : ∀ q, IA Γ q → A q := fun q ⟨k, hk, e⟩ => by rw [e]; exact X.2.2.2.2.2.2.2.1 k hk
/-- the words of a call: the callee's own code, then all the words -/
abbrev wy (y : MethodName) (bytes : ByteArray) (maxL : Nat) (ret : Option FieldType) : List Cond := .code y bytes maxL ret :: wL
theorem wy_good (hc : Cond.code y bytes maxL ret ∈ wL) : GoodIn wL (wy y bytes maxL ret) := fun w hw => by
  have hm : w ∈ wL := by
    rcases List.mem_cons.mp hw with rfl | h
    · exact hc
    · exact h
  exact ⟨hm, good_of_word (List.all_eq_true.mp wL_good w hm)⟩
theorem cw_V (X : MX A Γ p s m args c cc nL own) (n : Nat) (hc : Cond.code y bytes maxL ret ∈ wL) (h1 : Cond.methodLink own index y ∈ wL) (h2 : Cond.instanceMethod y ∈ wL) (h3 : Cond.selects y.cls y y ∈ wL) (h4 : Cond.initialized y.cls ∈ wL) (hrc : rm.cells = 0) (hrs : rm.slots = 0)
    (hd : y.cls ≠ "java/lang/invoke/MethodHandle" ∧ y.cls ≠ "java/lang/invoke/VarHandle" ∧ (parseMethodDescriptor y.desc).map (fun d => d.parameters.length) = some n) (hR : rm.frames + 1 ≤ R.frames ∧ 8 + (maxL + 11) + rm.locals ≤ R.locals) : CallW R s args own y.cls index y bytes maxL ret (wy y bytes maxL ret) rm 0 0 n :=
  ⟨callB_of n X.hts (wy_good hc) rfl hrc hrs (X.hts _ h4) (X.hts _ h1) hd hR, X.hts _ h2, X.hts _ h3⟩
theorem cw_S (X : MX A Γ p s m args c cc nL own) (n : Nat) (hc : Cond.code y bytes maxL ret ∈ wL) (h1 : Cond.methodLink own index y ∈ wL) (h2 : Cond.static y ∈ wL) (h4 : Cond.initialized y.cls ∈ wL) (hrc : rm.cells = 0) (hrs : rm.slots = 0)
    (hd : y.cls ≠ "java/lang/invoke/MethodHandle" ∧ y.cls ≠ "java/lang/invoke/VarHandle" ∧ (parseMethodDescriptor y.desc).map (fun d => d.parameters.length) = some n) (hR : rm.frames + 1 ≤ R.frames ∧ 8 + (maxL + 11) + rm.locals ≤ R.locals) : CallB R s args own index y bytes maxL ret (wy y bytes maxL ret) rm 0 0 n ∧ (Cond.static y).before args s = true :=
  ⟨callB_of n X.hts (wy_good hc) rfl hrc hrs (X.hts _ h4) (X.hts _ h1) hd hR, X.hts _ h2⟩
theorem r_recv (X : MX A Γ p s m args c cc nL own) (hH : HW A Γ σ H0 H locs) {k ci o z N : Nat} {C : String} {T : u_T} (hk : k < 440) (hd : desc k = (4, ci, o, z)) (hc : vwCl[ci]? = some (C, T, N)) : ∃ cell : Cell, H[adr Γ k]? = some cell ∧ cell.vm.isStatics = false ∧ s.vm.findClass C = some cell.cls :=
  va_recv X.2.2.2.2.2.1 hH.1 hc (q0 := k) (fs := objF Γ σ ci o) (by rw [wd_get hk, hd]; rfl)
theorem fix_of (X : MX A Γ p s m args c cc nL own) : CallFix p m c cc nL s args wL own := ⟨X.1, X.2.1, X.2.2.1, X.2.2.2.1, X.2.2.2.2.1⟩
theorem r_callVI (X : MX A Γ p s m args c cc nL own) (hl : lv_has ls nL lv) (hH : HW A Γ σ H0 H locs) {b : Nat} {r : Int32} (hM : CI l y (wy y bytes maxL ret) rm Γ σ (.ref b :: As) σ' r) (cw : CallW R s args own y.cls index y bytes maxL ret (wy y bytes maxL ret) rm 0 0 n) (hrc : ∃ cell : Cell, H[b]? = some cell ∧ cell.vm.isStatics = false ∧ s.vm.findClass y.cls = some cell.cls) (hn : As.length = n) (hst : st0 = As.reverse ++ .ref b :: rest) (hW : (rest.map fun v => v.category).sum ≤ 8) (hdg : decode cc pc = .ok (.invokevirtual index, 3)) (hf : cells ≤ R.cells ∧ slots ≤ R.slots)
    (kk : ∀ H1 locs1, HW A Γ σ' H0 H1 locs1 → W p l e R s m args below meth c H1 locs1 cells slots Q (F0 m (pc + 3) ls (.int r :: rest))) : W p l e R s m args below meth c H locs cells slots Q (F0 m pc ls st0) :=
  va_calli (va_runV (As := As) (rest := rest) (fix_of X) hM cw ⟨cp_blind, hrc, cp_pre X hH⟩ rfl hn hl.1 hst (lv_room hW) hdg hf) hH.2 (fun q _ h => ia_in X q h) (ia_in X) (fun r' u t H1 locs1 ht _ hw hB _ _ hS => by
    subst hw
    exact kk H1 locs1 ⟨by rw [← ht]; exact hB.1, hS⟩)
theorem r_callVL (X : MX A Γ p s m args c cc nL own) (hl : lv_has ls nL lv) (hH : HW A Γ σ H0 H locs) {b : Nat} {r : Int64} (hM : CL l y (wy y bytes maxL ret) rm Γ σ (.ref b :: As) σ' r) (cw : CallW R s args own y.cls index y bytes maxL ret (wy y bytes maxL ret) rm 0 0 n) (hrc : ∃ cell : Cell, H[b]? = some cell ∧ cell.vm.isStatics = false ∧ s.vm.findClass y.cls = some cell.cls) (hn : As.length = n) (hst : st0 = As.reverse ++ .ref b :: rest) (hW : (rest.map fun v => v.category).sum ≤ 8) (hdg : decode cc pc = .ok (.invokevirtual index, 3)) (hf : cells ≤ R.cells ∧ slots ≤ R.slots)
    (kk : ∀ H1 locs1, HW A Γ σ' H0 H1 locs1 → W p l e R s m args below meth c H1 locs1 cells slots Q (F0 m (pc + 3) ls (.long r :: rest))) : W p l e R s m args below meth c H locs cells slots Q (F0 m pc ls st0) :=
  va_calll (va_runV (As := As) (rest := rest) (fix_of X) hM cw ⟨cp_blind, hrc, cp_pre X hH⟩ rfl hn hl.1 hst (lv_room hW) hdg hf) hH.2 (fun q _ h => ia_in X q h) (ia_in X) (fun r' u t H1 locs1 ht _ hw hB _ _ hS => by
    subst hw
    exact kk H1 locs1 ⟨by rw [← ht]; exact hB.1, hS⟩)
theorem r_callVV (X : MX A Γ p s m args c cc nL own) (hl : lv_has ls nL lv) (hH : HW A Γ σ H0 H locs) {b : Nat} {r : Unit} (hM : CV l y (wy y bytes maxL ret) rm Γ σ (.ref b :: As) σ' r) (cw : CallW R s args own y.cls index y bytes maxL ret (wy y bytes maxL ret) rm 0 0 n) (hrc : ∃ cell : Cell, H[b]? = some cell ∧ cell.vm.isStatics = false ∧ s.vm.findClass y.cls = some cell.cls) (hn : As.length = n) (hst : st0 = As.reverse ++ .ref b :: rest) (hW : (rest.map fun v => v.category).sum ≤ 8) (hdg : decode cc pc = .ok (.invokevirtual index, 3)) (hf : cells ≤ R.cells ∧ slots ≤ R.slots)
    (kk : ∀ H1 locs1, HW A Γ σ' H0 H1 locs1 → W p l e R s m args below meth c H1 locs1 cells slots Q (F0 m (pc + 3) ls rest)) : W p l e R s m args below meth c H locs cells slots Q (F0 m pc ls st0) :=
  va_callv (va_runV (As := As) (rest := rest) (fix_of X) hM cw ⟨cp_blind, hrc, cp_pre X hH⟩ rfl hn hl.1 hst (lv_room hW) hdg hf) hH.2 (fun q _ h => ia_in X q h) (ia_in X) (fun u t H1 locs1 ht _ hw hB _ _ hS => kk H1 locs1 ⟨by rw [← ht]; exact hB.1, hS⟩)
theorem r_callVR (X : MX A Γ p s m args c cc nL own) (hl : lv_has ls nL lv) (hH : HW A Γ σ H0 H locs) {b r : Nat} (hM : CR l y (wy y bytes maxL ret) rm Γ σ (.ref b :: As) σ' r) (cw : CallW R s args own y.cls index y bytes maxL ret (wy y bytes maxL ret) rm 0 0 n) (hrc : ∃ cell : Cell, H[b]? = some cell ∧ cell.vm.isStatics = false ∧ s.vm.findClass y.cls = some cell.cls) (hn : As.length = n) (hst : st0 = As.reverse ++ .ref b :: rest) (hW : (rest.map fun v => v.category).sum ≤ 8) (hdg : decode cc pc = .ok (.invokevirtual index, 3)) (hf : cells ≤ R.cells ∧ slots ≤ R.slots)
    (kk : ∀ H1 locs1, HW A Γ σ' H0 H1 locs1 → W p l e R s m args below meth c H1 locs1 cells slots Q (F0 m (pc + 3) ls (.ref (adr Γ (kR r)) :: rest))) : W p l e R s m args below meth c H locs cells slots Q (F0 m pc ls st0) :=
  va_callr (va_runV (As := As) (rest := rest) (fix_of X) hM cw ⟨cp_blind, hrc, cp_pre X hH⟩ rfl hn hl.1 hst (lv_room hW) hdg hf) hH.2 (fun q _ h => ia_in X q h) (ia_in X) (fun u ra t H1 locs1 ht _ hw hB _ _ hS => by
    rw [hB.1]
    exact kk H1 locs1 ⟨by rw [← ht]; exact hB.2.1, hS⟩)
theorem r_callSI (X : MX A Γ p s m args c cc nL own) (hl : lv_has ls nL lv) (hH : HW A Γ σ H0 H locs) {r : Int32} (hM : CI l y (wy y bytes maxL ret) rm Γ σ As σ' r) (cw : CallB R s args own index y bytes maxL ret (wy y bytes maxL ret) rm 0 0 n ∧ (Cond.static y).before args s = true) (hn : As.length = n) (hst : st0 = As.reverse ++ rest) (hW : (rest.map fun v => v.category).sum ≤ 8) (hdg : decode cc pc = .ok (.invokestatic index, 3)) (hf : cells ≤ R.cells ∧ slots ≤ R.slots)
    (kk : ∀ H1 locs1, HW A Γ σ' H0 H1 locs1 → W p l e R s m args below meth c H1 locs1 cells slots Q (F0 m (pc + 3) ls (.int r :: rest))) : W p l e R s m args below meth c H locs cells slots Q (F0 m pc ls st0) :=
  va_calli (va_runS (As := As) (rest := rest) (fix_of X) hM cw ⟨cp_blind, cp_pre X hH⟩ rfl hn hl.1 hst (lv_room hW) hdg hf) hH.2 (fun q _ h => ia_in X q h) (ia_in X) (fun r' u t H1 locs1 ht _ hw hB _ _ hS => by
    subst hw
    exact kk H1 locs1 ⟨by rw [← ht]; exact hB.1, hS⟩)
theorem r_callSL (X : MX A Γ p s m args c cc nL own) (hl : lv_has ls nL lv) (hH : HW A Γ σ H0 H locs) {r : Int64} (hM : CL l y (wy y bytes maxL ret) rm Γ σ As σ' r) (cw : CallB R s args own index y bytes maxL ret (wy y bytes maxL ret) rm 0 0 n ∧ (Cond.static y).before args s = true) (hn : As.length = n) (hst : st0 = As.reverse ++ rest) (hW : (rest.map fun v => v.category).sum ≤ 8) (hdg : decode cc pc = .ok (.invokestatic index, 3)) (hf : cells ≤ R.cells ∧ slots ≤ R.slots)
    (kk : ∀ H1 locs1, HW A Γ σ' H0 H1 locs1 → W p l e R s m args below meth c H1 locs1 cells slots Q (F0 m (pc + 3) ls (.long r :: rest))) : W p l e R s m args below meth c H locs cells slots Q (F0 m pc ls st0) :=
  va_calll (va_runS (As := As) (rest := rest) (fix_of X) hM cw ⟨cp_blind, cp_pre X hH⟩ rfl hn hl.1 hst (lv_room hW) hdg hf) hH.2 (fun q _ h => ia_in X q h) (ia_in X) (fun r' u t H1 locs1 ht _ hw hB _ _ hS => by
    subst hw
    exact kk H1 locs1 ⟨by rw [← ht]; exact hB.1, hS⟩)
theorem r_callSV (X : MX A Γ p s m args c cc nL own) (hl : lv_has ls nL lv) (hH : HW A Γ σ H0 H locs) {r : Unit} (hM : CV l y (wy y bytes maxL ret) rm Γ σ As σ' r) (cw : CallB R s args own index y bytes maxL ret (wy y bytes maxL ret) rm 0 0 n ∧ (Cond.static y).before args s = true) (hn : As.length = n) (hst : st0 = As.reverse ++ rest) (hW : (rest.map fun v => v.category).sum ≤ 8) (hdg : decode cc pc = .ok (.invokestatic index, 3)) (hf : cells ≤ R.cells ∧ slots ≤ R.slots)
    (kk : ∀ H1 locs1, HW A Γ σ' H0 H1 locs1 → W p l e R s m args below meth c H1 locs1 cells slots Q (F0 m (pc + 3) ls rest)) : W p l e R s m args below meth c H locs cells slots Q (F0 m pc ls st0) :=
  va_callv (va_runS (As := As) (rest := rest) (fix_of X) hM cw ⟨cp_blind, cp_pre X hH⟩ rfl hn hl.1 hst (lv_room hW) hdg hf) hH.2 (fun q _ h => ia_in X q h) (ia_in X) (fun u t H1 locs1 ht _ hw hB _ _ hS => kk H1 locs1 ⟨by rw [← ht]; exact hB.1, hS⟩)
theorem r_callSVN (X : MX A Γ p s m args c cc nL own) (hl : lv_has ls nL lv) (hH : HW A Γ σ H0 H locs) {host : String} {r : Unit} (hM : CV l y (wy y bytes maxL ret) rm Γ σ As σ' r) (hc : Cond.code y bytes maxL ret ∈ wL) (h1 : va_Nw (.methodLinkNest own index y host) s) (h2 : Cond.static y ∈ wL) (h4 : Cond.initialized y.cls ∈ wL) (hrc : rm.cells = 0) (hrs : rm.slots = 0)
    (hd : y.cls ≠ "java/lang/invoke/MethodHandle" ∧ y.cls ≠ "java/lang/invoke/VarHandle" ∧ (parseMethodDescriptor y.desc).map (fun d => d.parameters.length) = some n) (hR : rm.frames + 1 ≤ R.frames ∧ 8 + (maxL + 11) + rm.locals ≤ R.locals) (hn : As.length = n) (hst : st0 = As.reverse ++ rest) (hW : (rest.map fun v => v.category).sum ≤ 8) (hdg : decode cc pc = .ok (.invokestatic index, 3)) (hf : cells ≤ R.cells ∧ slots ≤ R.slots)
    (kk : ∀ H1 locs1, HW A Γ σ' H0 H1 locs1 → W p l e R s m args below meth c H1 locs1 cells slots Q (F0 m (pc + 3) ls rest)) : W p l e R s m args below meth c H locs cells slots Q (F0 m pc ls st0) :=
  va_callv (va_runSN (As := As) (rest := rest) (fix_of X) hM ⟨va_cnB n X.hts (wy_good hc) rfl hrc hrs h1 (X.hts _ h4) hd hR, X.hts _ h2, trivial⟩ ⟨cp_blind, cp_pre X hH⟩ rfl hn hl.1 hst (lv_room hW) hdg hf) hH.2 (fun q _ h => ia_in X q h) (ia_in X) (fun u t H1 locs1 ht _ hw hB _ _ hS => kk H1 locs1 ⟨by rw [← ht]; exact hB.1, hS⟩)
end ROWS
/-- a contract out of the walk of its body -/
theorem met_of {l : Launch} {y : MethodName} {cc : ByteArray} {maxL : Nat} {ret : Option FieldType} {rm : Room} {Γ : GG} {σ : Sg} {as : List Value} {Qc : Array Value → State → Outcome → State → Prop} (hy : plainName y.cls = true) (hJ : IJ Γ) (hlen : (lg_sl as).length ≤ maxL)
    (body : ∀ (p : Program) (e : Env) (s : State) (m : MethodId) (below : List Frame) (meth : Method) (c : Code) (ls : Array Slot), MB Γ p s m as.toArray meth c cc maxL y.cls ret → HW (IA Γ) Γ σ s.heap s.heap [] → lv_has ls maxL (lv_args 0 as) → W p l e rm s m as.toArray below meth c s.heap [] 0 0 (MQ below Qc as.toArray s 0 0 (IA Γ)) (F0 m 0 ls [])) :
    Met l y (wy y cc maxL ret) rm (va_Pc as (CP Γ σ)) Qc 0 0 (IA Γ) := by
  refine Met.ofW (cc := cc) (maxL := maxL) (ret := ret) hy rfl ?_
  intro p e s m args below meth c s₁ B hml hv
  obtain ⟨rfl, hP, hK, hN⟩ := hv
  have hts := atoms_spec (ws := wy y cc maxL ret) B.pre
  have hl := lv_entry as hlen
  rw [lg_entry_eq]
  exact body p e s m below meth c _ ⟨⟨B.exec, B.bytes, hml, findClass_of_methodNamed B.named, fun w hw => hts w (List.mem_cons_of_mem _ hw), hK, hJ, fun k hk => ⟨k, hk, rfl⟩, hN⟩, B.returns, B.notSynchronized⟩ ⟨hP, va_S.rf⟩ hl
end
section
/-! WORDS by their places in the law's list -/
theorem mw_2 : Cond.initialized RX10 ∈ wL := List.mem_of_getElem? (i := 2) (by decide +kernel)
theorem mw_12 : Cond.initialized RX8 ∈ wL := List.mem_of_getElem? (i := 12) (by decide +kernel)
theorem mw_13 : Cond.fieldLink RX10 12 "CutoffMill" "texts" "LCutoffMill$Texts;" ∈ wL := List.mem_of_getElem? (i := 13) (by decide +kernel)
theorem mw_16 : Cond.initialized RX4 ∈ wL := List.mem_of_getElem? (i := 16) (by decide +kernel)
theorem mw_17 : Cond.fieldLink RX10 21 "CutoffMill" "names" "LCutoffMill$Names;" ∈ wL := List.mem_of_getElem? (i := 17) (by decide +kernel)
theorem mw_20 : Cond.initialized RX6 ∈ wL := List.mem_of_getElem? (i := 20) (by decide +kernel)
theorem mw_21 : Cond.fieldLink RX10 28 "CutoffMill" "rings" "LCutoffMill$Rings;" ∈ wL := List.mem_of_getElem? (i := 21) (by decide +kernel)
theorem mw_24 : Cond.initialized RX9 ∈ wL := List.mem_of_getElem? (i := 24) (by decide +kernel)
theorem mw_25 : Cond.fieldLink RX10 37 "CutoffMill" "works" "LCutoffMill$Works;" ∈ wL := List.mem_of_getElem? (i := 25) (by decide +kernel)
theorem mw_26 : Cond.fieldLink RX10 41 "CutoffMill" "trial" "LCutoffMill$Works;" ∈ wL := List.mem_of_getElem? (i := 26) (by decide +kernel)
theorem mw_27 : Cond.fieldLink RX10 44 "CutoffMill" "openCalls" "[I" ∈ wL := List.mem_of_getElem? (i := 27) (by decide +kernel)
theorem mw_28 : Cond.fieldLink RX10 48 "CutoffMill" "builtTimes" "[I" ∈ wL := List.mem_of_getElem? (i := 28) (by decide +kernel)
theorem mw_29 : Cond.fieldLink RX10 51 "CutoffMill" "fetchedTimes" "[I" ∈ wL := List.mem_of_getElem? (i := 29) (by decide +kernel)
theorem mw_33 : Cond.fieldLink RX8 9 "CutoffMill$Texts" "declarations" "[I" ∈ wL := List.mem_of_getElem? (i := 33) (by decide +kernel)
theorem mw_34 : Cond.fieldLink RX8 15 "CutoffMill$Texts" "imports" "[I" ∈ wL := List.mem_of_getElem? (i := 34) (by decide +kernel)
theorem mw_35 : Cond.fieldLink RX8 18 "CutoffMill$Texts" "importCounts" "[I" ∈ wL := List.mem_of_getElem? (i := 35) (by decide +kernel)
theorem mw_40 : Cond.fieldLink RX4 9 "CutoffMill$Names" "outside" "[I" ∈ wL := List.mem_of_getElem? (i := 40) (by decide +kernel)
theorem mw_41 : Cond.fieldLink RX4 15 "CutoffMill$Names" "within" "[I" ∈ wL := List.mem_of_getElem? (i := 41) (by decide +kernel)
theorem mw_42 : Cond.fieldLink RX4 18 "CutoffMill$Names" "wanted" "[I" ∈ wL := List.mem_of_getElem? (i := 42) (by decide +kernel)
theorem mw_43 : Cond.fieldLink RX4 21 "CutoffMill$Names" "sources" "[I" ∈ wL := List.mem_of_getElem? (i := 43) (by decide +kernel)
theorem mw_44 : Cond.fieldLink RX4 24 "CutoffMill$Names" "sourcesAgain" "[I" ∈ wL := List.mem_of_getElem? (i := 44) (by decide +kernel)
theorem mw_45 : Cond.fieldLink RX4 27 "CutoffMill$Names" "allFrom" "[I" ∈ wL := List.mem_of_getElem? (i := 45) (by decide +kernel)
theorem mw_46 : Cond.fieldLink RX4 30 "CutoffMill$Names" "allFromAgain" "[I" ∈ wL := List.mem_of_getElem? (i := 46) (by decide +kernel)
theorem mw_47 : Cond.fieldLink RX4 33 "CutoffMill$Names" "texts" "LCutoffMill$Texts;" ∈ wL := List.mem_of_getElem? (i := 47) (by decide +kernel)
theorem mw_52 : Cond.fieldLink RX6 9 "CutoffMill$Rings" "leansOn" "[I" ∈ wL := List.mem_of_getElem? (i := 52) (by decide +kernel)
theorem mw_53 : Cond.fieldLink RX6 15 "CutoffMill$Rings" "reach" "[I" ∈ wL := List.mem_of_getElem? (i := 53) (by decide +kernel)
theorem mw_54 : Cond.fieldLink RX6 18 "CutoffMill$Rings" "ringOf" "[I" ∈ wL := List.mem_of_getElem? (i := 54) (by decide +kernel)
theorem mw_55 : Cond.fieldLink RX6 21 "CutoffMill$Rings" "placeOf" "[I" ∈ wL := List.mem_of_getElem? (i := 55) (by decide +kernel)
theorem mw_56 : Cond.fieldLink RX6 24 "CutoffMill$Rings" "order" "[I" ∈ wL := List.mem_of_getElem? (i := 56) (by decide +kernel)
theorem mw_57 : Cond.fieldLink RX6 27 "CutoffMill$Rings" "texts" "LCutoffMill$Texts;" ∈ wL := List.mem_of_getElem? (i := 57) (by decide +kernel)
theorem mw_63 : Cond.fieldLink RX9 11 "CutoffMill$Works" "last" "[LCutoffMill$Result;" ∈ wL := List.mem_of_getElem? (i := 63) (by decide +kernel)
theorem mw_64 : Cond.fieldLink RX9 17 "CutoffMill$Works" "texts" "LCutoffMill$Texts;" ∈ wL := List.mem_of_getElem? (i := 64) (by decide +kernel)
theorem mw_65 : Cond.fieldLink RX9 21 "CutoffMill$Works" "names" "LCutoffMill$Names;" ∈ wL := List.mem_of_getElem? (i := 65) (by decide +kernel)
theorem mw_66 : Cond.fieldLink RX9 25 "CutoffMill$Works" "rings" "LCutoffMill$Rings;" ∈ wL := List.mem_of_getElem? (i := 66) (by decide +kernel)
theorem mw_69 : Cond.initialized RX7 ∈ wL := List.mem_of_getElem? (i := 69) (by decide +kernel)
theorem mw_70 : Cond.fieldLink RX9 34 "CutoffMill$Works" "store" "LCutoffMill$Store;" ∈ wL := List.mem_of_getElem? (i := 70) (by decide +kernel)
theorem mw_72 : Cond.initialized RX5 ∈ wL := List.mem_of_getElem? (i := 72) (by decide +kernel)
theorem mw_73 : Cond.fieldLink RX9 39 "CutoffMill$Works" "unbuilt" "LCutoffMill$Result;" ∈ wL := List.mem_of_getElem? (i := 73) (by decide +kernel)
theorem mw_74 : Cond.fieldLink RX9 43 "CutoffMill$Works" "pool" "[LCutoffMill$Result;" ∈ wL := List.mem_of_getElem? (i := 74) (by decide +kernel)
theorem mw_77 : Cond.initialized RX3 ∈ wL := List.mem_of_getElem? (i := 77) (by decide +kernel)
theorem mw_78 : Cond.fieldLink RX9 51 "CutoffMill$Works" "maker" "LCutoffMill$Maker;" ∈ wL := List.mem_of_getElem? (i := 78) (by decide +kernel)
theorem mw_84 : Cond.fieldLink RX7 9 "CutoffMill$Store" "kept" "[LCutoffMill$Result;" ∈ wL := List.mem_of_getElem? (i := 84) (by decide +kernel)
theorem mw_90 : Cond.fieldLink RX5 12 "CutoffMill$Result" "texts" "LCutoffMill$Texts;" ∈ wL := List.mem_of_getElem? (i := 90) (by decide +kernel)
theorem mw_92 : Cond.fieldLink RX5 18 "CutoffMill$Result" "noted" "[J" ∈ wL := List.mem_of_getElem? (i := 92) (by decide +kernel)
theorem mw_93 : Cond.fieldLink RX5 22 "CutoffMill$Result" "answers" "[J" ∈ wL := List.mem_of_getElem? (i := 93) (by decide +kernel)
theorem mw_94 : Cond.fieldLink RX5 25 "CutoffMill$Result" "faults" "[I" ∈ wL := List.mem_of_getElem? (i := 94) (by decide +kernel)
theorem mw_96 : Cond.fieldLink RX5 29 "CutoffMill$Result" "isProcedure" "[Z" ∈ wL := List.mem_of_getElem? (i := 96) (by decide +kernel)
theorem mw_97 : Cond.fieldLink RX5 33 "CutoffMill$Result" "isPlain" "[Z" ∈ wL := List.mem_of_getElem? (i := 97) (by decide +kernel)
theorem mw_98 : Cond.fieldLink RX5 36 "CutoffMill$Result" "numbers" "[I" ∈ wL := List.mem_of_getElem? (i := 98) (by decide +kernel)
theorem mw_99 : Cond.fieldLink RX5 39 "CutoffMill$Result" "firstCalls" "[I" ∈ wL := List.mem_of_getElem? (i := 99) (by decide +kernel)
theorem mw_100 : Cond.fieldLink RX5 42 "CutoffMill$Result" "secondCalls" "[I" ∈ wL := List.mem_of_getElem? (i := 100) (by decide +kernel)
theorem mw_101 : Cond.methodLink RX5 45 yX5_setUnbuilt ∈ wL := List.mem_of_getElem? (i := 101) (by decide +kernel)
theorem mw_102 : Cond.instanceMethod yX5_setUnbuilt ∈ wL := List.mem_of_getElem? (i := 102) (by decide +kernel)
theorem mw_103 : Cond.selects RX5 yX5_setUnbuilt yX5_setUnbuilt ∈ wL := List.mem_of_getElem? (i := 103) (by decide +kernel)
theorem mw_104 : Cond.code yX5_setUnbuilt cX5_setUnbuilt 2 none ∈ wL := List.mem_of_getElem? (i := 104) (by decide +kernel)
theorem mw_105 : Cond.methodLink RX5 65 yX0_of ∈ wL := List.mem_of_getElem? (i := 105) (by decide +kernel)
theorem mw_106 : Cond.static yX0_of ∈ wL := List.mem_of_getElem? (i := 106) (by decide +kernel)
theorem mw_107 : Cond.initialized RX0 ∈ wL := List.mem_of_getElem? (i := 107) (by decide +kernel)
theorem mw_108 : Cond.code yX0_of cX0_of 5 (some .long) ∈ wL := List.mem_of_getElem? (i := 108) (by decide +kernel)
theorem mw_109 : Cond.constantLong RX0 9 (4294967295) ∈ wL := List.mem_of_getElem? (i := 109) (by decide +kernel)
theorem mw_115 : Cond.fieldLink RX3 11 "CutoffMill$Maker" "states" "[LCutoffMill$Result;" ∈ wL := List.mem_of_getElem? (i := 115) (by decide +kernel)
theorem mw_116 : Cond.fieldLink RX3 17 "CutoffMill$Maker" "members" "[I" ∈ wL := List.mem_of_getElem? (i := 116) (by decide +kernel)
theorem mw_117 : Cond.fieldLink RX3 21 "CutoffMill$Maker" "targets" "[I" ∈ wL := List.mem_of_getElem? (i := 117) (by decide +kernel)
theorem mw_118 : Cond.fieldLink RX3 24 "CutoffMill$Maker" "isLink" "[Z" ∈ wL := List.mem_of_getElem? (i := 118) (by decide +kernel)
theorem mw_119 : Cond.fieldLink RX3 28 "CutoffMill$Maker" "walk" "[I" ∈ wL := List.mem_of_getElem? (i := 119) (by decide +kernel)
theorem mw_120 : Cond.fieldLink RX3 31 "CutoffMill$Maker" "isWalked" "[Z" ∈ wL := List.mem_of_getElem? (i := 120) (by decide +kernel)
theorem mw_121 : Cond.fieldLink RX3 34 "CutoffMill$Maker" "names" "LCutoffMill$Names;" ∈ wL := List.mem_of_getElem? (i := 121) (by decide +kernel)
theorem mw_124 : Cond.initialized RL ∈ wL := List.mem_of_getElem? (i := 124) (by decide +kernel)
theorem mw_127 : Cond.methodLink RL 18 yL_below ∈ wL := List.mem_of_getElem? (i := 127) (by decide +kernel)
theorem mw_128 : Cond.static yL_below ∈ wL := List.mem_of_getElem? (i := 128) (by decide +kernel)
theorem mw_129 : Cond.code yL_below cL_below 2 (some .int) ∈ wL := List.mem_of_getElem? (i := 129) (by decide +kernel)
theorem mw_130 : Cond.constant RL 7 (2147483647) ∈ wL := List.mem_of_getElem? (i := 130) (by decide +kernel)
theorem mw_137 : Cond.fieldLink RX10 54 "CutoffMill$Texts" "moduleCount" "I" ∈ wL := List.mem_of_getElem? (i := 137) (by decide +kernel)
theorem mw_138 : Cond.methodLink RX10 65 yX10_settle ∈ wL := List.mem_of_getElem? (i := 138) (by decide +kernel)
theorem mw_139 : Cond.instanceMethod yX10_settle ∈ wL := List.mem_of_getElem? (i := 139) (by decide +kernel)
theorem mw_140 : Cond.selects RX10 yX10_settle yX10_settle ∈ wL := List.mem_of_getElem? (i := 140) (by decide +kernel)
theorem mw_141 : Cond.code yX10_settle cX10_settle 1 none ∈ wL := List.mem_of_getElem? (i := 141) (by decide +kernel)
theorem mw_142 : Cond.methodLink RX10 304 yX4_settle ∈ wL := List.mem_of_getElem? (i := 142) (by decide +kernel)
theorem mw_143 : Cond.instanceMethod yX4_settle ∈ wL := List.mem_of_getElem? (i := 143) (by decide +kernel)
theorem mw_144 : Cond.selects RX4 yX4_settle yX4_settle ∈ wL := List.mem_of_getElem? (i := 144) (by decide +kernel)
theorem mw_145 : Cond.code yX4_settle cX4_settle 2 none ∈ wL := List.mem_of_getElem? (i := 145) (by decide +kernel)
theorem mw_146 : Cond.fieldLink RX4 49 "CutoffMill$Texts" "moduleCount" "I" ∈ wL := List.mem_of_getElem? (i := 146) (by decide +kernel)
theorem mw_147 : Cond.methodLink RX4 37 yX4_settleImports ∈ wL := List.mem_of_getElem? (i := 147) (by decide +kernel)
theorem mw_148 : Cond.instanceMethod yX4_settleImports ∈ wL := List.mem_of_getElem? (i := 148) (by decide +kernel)
theorem mw_149 : Cond.selects RX4 yX4_settleImports yX4_settleImports ∈ wL := List.mem_of_getElem? (i := 149) (by decide +kernel)
theorem mw_150 : Cond.code yX4_settleImports cX4_settleImports 3 none ∈ wL := List.mem_of_getElem? (i := 150) (by decide +kernel)
theorem mw_151 : Cond.fieldLink RX4 67 "CutoffMill$Texts" "importCounts" "[I" ∈ wL := List.mem_of_getElem? (i := 151) (by decide +kernel)
theorem mw_152 : Cond.methodLink RX4 43 yJ7_fill_53178 ∈ wL := List.mem_of_getElem? (i := 152) (by decide +kernel)
theorem mw_153 : Cond.static yJ7_fill_53178 ∈ wL := List.mem_of_getElem? (i := 153) (by decide +kernel)
theorem mw_154 : Cond.initialized RJ7 ∈ wL := List.mem_of_getElem? (i := 154) (by decide +kernel)
theorem mw_155 : Cond.code yJ7_fill_53178 cJ7_fill_53178 4 none ∈ wL := List.mem_of_getElem? (i := 155) (by decide +kernel)
theorem mw_156 : Cond.methodLink RX4 70 yX8_importAt ∈ wL := List.mem_of_getElem? (i := 156) (by decide +kernel)
theorem mw_157 : Cond.instanceMethod yX8_importAt ∈ wL := List.mem_of_getElem? (i := 157) (by decide +kernel)
theorem mw_158 : Cond.selects RX8 yX8_importAt yX8_importAt ∈ wL := List.mem_of_getElem? (i := 158) (by decide +kernel)
theorem mw_159 : Cond.code yX8_importAt cX8_importAt 3 (some .int) ∈ wL := List.mem_of_getElem? (i := 159) (by decide +kernel)
theorem mw_160 : Cond.methodLink RX4 74 yX4_settleImport ∈ wL := List.mem_of_getElem? (i := 160) (by decide +kernel)
theorem mw_161 : Cond.instanceMethod yX4_settleImport ∈ wL := List.mem_of_getElem? (i := 161) (by decide +kernel)
theorem mw_162 : Cond.selects RX4 yX4_settleImport yX4_settleImport ∈ wL := List.mem_of_getElem? (i := 162) (by decide +kernel)
theorem mw_163 : Cond.code yX4_settleImport cX4_settleImport 5 none ∈ wL := List.mem_of_getElem? (i := 163) (by decide +kernel)
theorem mw_164 : Cond.methodLink RX4 78 yX2_isAgain ∈ wL := List.mem_of_getElem? (i := 164) (by decide +kernel)
theorem mw_165 : Cond.static yX2_isAgain ∈ wL := List.mem_of_getElem? (i := 165) (by decide +kernel)
theorem mw_166 : Cond.initialized RX2 ∈ wL := List.mem_of_getElem? (i := 166) (by decide +kernel)
theorem mw_167 : Cond.code yX2_isAgain cX2_isAgain 1 (some .boolean) ∈ wL := List.mem_of_getElem? (i := 167) (by decide +kernel)
theorem mw_168 : Cond.methodLink RX4 83 yX2_isOfAll ∈ wL := List.mem_of_getElem? (i := 168) (by decide +kernel)
theorem mw_169 : Cond.static yX2_isOfAll ∈ wL := List.mem_of_getElem? (i := 169) (by decide +kernel)
theorem mw_170 : Cond.code yX2_isOfAll cX2_isOfAll 1 (some .boolean) ∈ wL := List.mem_of_getElem? (i := 170) (by decide +kernel)
theorem mw_171 : Cond.methodLink RX4 86 yX2_from ∈ wL := List.mem_of_getElem? (i := 171) (by decide +kernel)
theorem mw_172 : Cond.static yX2_from ∈ wL := List.mem_of_getElem? (i := 172) (by decide +kernel)
theorem mw_173 : Cond.code yX2_from cX2_from 1 (some .int) ∈ wL := List.mem_of_getElem? (i := 173) (by decide +kernel)
theorem mw_174 : Cond.methodLink RX4 90 yX2_under ∈ wL := List.mem_of_getElem? (i := 174) (by decide +kernel)
theorem mw_175 : Cond.static yX2_under ∈ wL := List.mem_of_getElem? (i := 175) (by decide +kernel)
theorem mw_176 : Cond.code yX2_under cX2_under 1 (some .int) ∈ wL := List.mem_of_getElem? (i := 176) (by decide +kernel)
theorem mw_177 : Cond.methodLink RX4 93 yX2_source ∈ wL := List.mem_of_getElem? (i := 177) (by decide +kernel)
theorem mw_178 : Cond.static yX2_source ∈ wL := List.mem_of_getElem? (i := 178) (by decide +kernel)
theorem mw_179 : Cond.code yX2_source cX2_source 1 (some .int) ∈ wL := List.mem_of_getElem? (i := 179) (by decide +kernel)
theorem mw_180 : Cond.methodLink RX2 9 yX2_from ∈ wL := List.mem_of_getElem? (i := 180) (by decide +kernel)
theorem mw_181 : Cond.methodLink RX4 40 yX4_settleOutside ∈ wL := List.mem_of_getElem? (i := 181) (by decide +kernel)
theorem mw_182 : Cond.instanceMethod yX4_settleOutside ∈ wL := List.mem_of_getElem? (i := 182) (by decide +kernel)
theorem mw_183 : Cond.selects RX4 yX4_settleOutside yX4_settleOutside ∈ wL := List.mem_of_getElem? (i := 183) (by decide +kernel)
theorem mw_184 : Cond.code yX4_settleOutside cX4_settleOutside 5 none ∈ wL := List.mem_of_getElem? (i := 184) (by decide +kernel)
theorem mw_185 : Cond.methodLink RX4 96 yX4_lookedUp ∈ wL := List.mem_of_getElem? (i := 185) (by decide +kernel)
theorem mw_186 : Cond.instanceMethod yX4_lookedUp ∈ wL := List.mem_of_getElem? (i := 186) (by decide +kernel)
theorem mw_187 : Cond.selects RX4 yX4_lookedUp yX4_lookedUp ∈ wL := List.mem_of_getElem? (i := 187) (by decide +kernel)
theorem mw_188 : Cond.code yX4_lookedUp cX4_lookedUp 2 (some .int) ∈ wL := List.mem_of_getElem? (i := 188) (by decide +kernel)
theorem mw_189 : Cond.fieldLink RX4 99 "CutoffMill$Texts" "declarations" "[I" ∈ wL := List.mem_of_getElem? (i := 189) (by decide +kernel)
theorem mw_190 : Cond.methodLink RX4 55 yX8_isDeclared ∈ wL := List.mem_of_getElem? (i := 190) (by decide +kernel)
theorem mw_191 : Cond.instanceMethod yX8_isDeclared ∈ wL := List.mem_of_getElem? (i := 191) (by decide +kernel)
theorem mw_192 : Cond.selects RX8 yX8_isDeclared yX8_isDeclared ∈ wL := List.mem_of_getElem? (i := 192) (by decide +kernel)
theorem mw_193 : Cond.code yX8_isDeclared cX8_isDeclared 2 (some .boolean) ∈ wL := List.mem_of_getElem? (i := 193) (by decide +kernel)
theorem mw_194 : Cond.methodLink RX4 102 yX1_isPublic ∈ wL := List.mem_of_getElem? (i := 194) (by decide +kernel)
theorem mw_195 : Cond.static yX1_isPublic ∈ wL := List.mem_of_getElem? (i := 195) (by decide +kernel)
theorem mw_196 : Cond.initialized RX1 ∈ wL := List.mem_of_getElem? (i := 196) (by decide +kernel)
theorem mw_197 : Cond.code yX1_isPublic cX1_isPublic 1 (some .boolean) ∈ wL := List.mem_of_getElem? (i := 197) (by decide +kernel)
theorem mw_198 : Cond.methodLink RX4 59 yX4_broughtTo ∈ wL := List.mem_of_getElem? (i := 198) (by decide +kernel)
theorem mw_199 : Cond.instanceMethod yX4_broughtTo ∈ wL := List.mem_of_getElem? (i := 199) (by decide +kernel)
theorem mw_200 : Cond.selects RX4 yX4_broughtTo yX4_broughtTo ∈ wL := List.mem_of_getElem? (i := 200) (by decide +kernel)
theorem mw_201 : Cond.code yX4_broughtTo cX4_broughtTo 6 (some .int) ∈ wL := List.mem_of_getElem? (i := 201) (by decide +kernel)
theorem mw_202 : Cond.methodLink RX4 107 yX6_has ∈ wL := List.mem_of_getElem? (i := 202) (by decide +kernel)
theorem mw_203 : Cond.static yX6_has ∈ wL := List.mem_of_getElem? (i := 203) (by decide +kernel)
theorem mw_204 : Cond.code yX6_has cX6_has 2 (some .boolean) ∈ wL := List.mem_of_getElem? (i := 204) (by decide +kernel)
theorem mw_205 : Cond.methodLink RX4 113 yX4_joined ∈ wL := List.mem_of_getElem? (i := 205) (by decide +kernel)
theorem mw_206 : Cond.static yX4_joined ∈ wL := List.mem_of_getElem? (i := 206) (by decide +kernel)
theorem mw_207 : Cond.code yX4_joined cX4_joined 2 (some .int) ∈ wL := List.mem_of_getElem? (i := 207) (by decide +kernel)
theorem mw_208 : Cond.methodLink RX4 63 yX4_wantReferences ∈ wL := List.mem_of_getElem? (i := 208) (by decide +kernel)
theorem mw_209 : Cond.instanceMethod yX4_wantReferences ∈ wL := List.mem_of_getElem? (i := 209) (by decide +kernel)
theorem mw_210 : Cond.selects RX4 yX4_wantReferences yX4_wantReferences ∈ wL := List.mem_of_getElem? (i := 210) (by decide +kernel)
theorem mw_211 : Cond.code yX4_wantReferences cX4_wantReferences 3 none ∈ wL := List.mem_of_getElem? (i := 211) (by decide +kernel)
theorem mw_212 : Cond.methodLink RX4 116 yX1_reference ∈ wL := List.mem_of_getElem? (i := 212) (by decide +kernel)
theorem mw_213 : Cond.static yX1_reference ∈ wL := List.mem_of_getElem? (i := 213) (by decide +kernel)
theorem mw_214 : Cond.code yX1_reference cX1_reference 2 (some .int) ∈ wL := List.mem_of_getElem? (i := 214) (by decide +kernel)
theorem mw_215 : Cond.methodLink RX4 119 yX4_want ∈ wL := List.mem_of_getElem? (i := 215) (by decide +kernel)
theorem mw_216 : Cond.instanceMethod yX4_want ∈ wL := List.mem_of_getElem? (i := 216) (by decide +kernel)
theorem mw_217 : Cond.selects RX4 yX4_want yX4_want ∈ wL := List.mem_of_getElem? (i := 217) (by decide +kernel)
theorem mw_218 : Cond.code yX4_want cX4_want 5 none ∈ wL := List.mem_of_getElem? (i := 218) (by decide +kernel)
theorem mw_219 : Cond.methodLink RX10 305 yX6_settle ∈ wL := List.mem_of_getElem? (i := 219) (by decide +kernel)
theorem mw_220 : Cond.instanceMethod yX6_settle ∈ wL := List.mem_of_getElem? (i := 220) (by decide +kernel)
theorem mw_221 : Cond.selects RX6 yX6_settle yX6_settle ∈ wL := List.mem_of_getElem? (i := 221) (by decide +kernel)
theorem mw_222 : Cond.code yX6_settle cX6_settle 2 none ∈ wL := List.mem_of_getElem? (i := 222) (by decide +kernel)
theorem mw_223 : Cond.fieldLink RX6 38 "CutoffMill$Texts" "moduleCount" "I" ∈ wL := List.mem_of_getElem? (i := 223) (by decide +kernel)
theorem mw_224 : Cond.methodLink RX6 35 yX6_settleLeaning ∈ wL := List.mem_of_getElem? (i := 224) (by decide +kernel)
theorem mw_225 : Cond.instanceMethod yX6_settleLeaning ∈ wL := List.mem_of_getElem? (i := 225) (by decide +kernel)
theorem mw_226 : Cond.selects RX6 yX6_settleLeaning yX6_settleLeaning ∈ wL := List.mem_of_getElem? (i := 226) (by decide +kernel)
theorem mw_227 : Cond.code yX6_settleLeaning cX6_settleLeaning 4 none ∈ wL := List.mem_of_getElem? (i := 227) (by decide +kernel)
theorem mw_228 : Cond.fieldLink RX6 51 "CutoffMill$Texts" "importCounts" "[I" ∈ wL := List.mem_of_getElem? (i := 228) (by decide +kernel)
theorem mw_229 : Cond.methodLink RX6 54 yX8_importAt ∈ wL := List.mem_of_getElem? (i := 229) (by decide +kernel)
theorem mw_230 : Cond.methodLink RX6 58 yX2_from ∈ wL := List.mem_of_getElem? (i := 230) (by decide +kernel)
theorem mw_231 : Cond.methodLink RX6 31 yX6_has ∈ wL := List.mem_of_getElem? (i := 231) (by decide +kernel)
theorem mw_232 : Cond.methodLink RX6 44 yX6_ringAround ∈ wL := List.mem_of_getElem? (i := 232) (by decide +kernel)
theorem mw_233 : Cond.instanceMethod yX6_ringAround ∈ wL := List.mem_of_getElem? (i := 233) (by decide +kernel)
theorem mw_234 : Cond.selects RX6 yX6_ringAround yX6_ringAround ∈ wL := List.mem_of_getElem? (i := 234) (by decide +kernel)
theorem mw_235 : Cond.code yX6_ringAround cX6_ringAround 4 (some .int) ∈ wL := List.mem_of_getElem? (i := 235) (by decide +kernel)
theorem mw_236 : Cond.methodLink RX6 48 yX6_settleOrder ∈ wL := List.mem_of_getElem? (i := 236) (by decide +kernel)
theorem mw_237 : Cond.instanceMethod yX6_settleOrder ∈ wL := List.mem_of_getElem? (i := 237) (by decide +kernel)
theorem mw_238 : Cond.selects RX6 yX6_settleOrder yX6_settleOrder ∈ wL := List.mem_of_getElem? (i := 238) (by decide +kernel)
theorem mw_239 : Cond.code yX6_settleOrder cX6_settleOrder 4 none ∈ wL := List.mem_of_getElem? (i := 239) (by decide +kernel)
theorem mw_240 : Cond.fieldLink RX6 63 "CutoffMill$Rings" "count" "I" ∈ wL := List.mem_of_getElem? (i := 240) (by decide +kernel)
theorem mw_241 : Cond.methodLink RX6 66 yX6_nextBehind ∈ wL := List.mem_of_getElem? (i := 241) (by decide +kernel)
theorem mw_242 : Cond.instanceMethod yX6_nextBehind ∈ wL := List.mem_of_getElem? (i := 242) (by decide +kernel)
theorem mw_243 : Cond.selects RX6 yX6_nextBehind yX6_nextBehind ∈ wL := List.mem_of_getElem? (i := 243) (by decide +kernel)
theorem mw_244 : Cond.code yX6_nextBehind cX6_nextBehind 4 (some .int) ∈ wL := List.mem_of_getElem? (i := 244) (by decide +kernel)
theorem mw_245 : Cond.methodLink RX6 69 yX6_placeModules ∈ wL := List.mem_of_getElem? (i := 245) (by decide +kernel)
theorem mw_246 : Cond.instanceMethod yX6_placeModules ∈ wL := List.mem_of_getElem? (i := 246) (by decide +kernel)
theorem mw_247 : Cond.selects RX6 yX6_placeModules yX6_placeModules ∈ wL := List.mem_of_getElem? (i := 247) (by decide +kernel)
theorem mw_248 : Cond.code yX6_placeModules cX6_placeModules 4 none ∈ wL := List.mem_of_getElem? (i := 248) (by decide +kernel)
theorem mw_252 : Cond.methodLink RL 69 yX10_ofModule ∈ wL := List.mem_of_getElem? (i := 252) (by decide +kernel)
theorem mw_253 : Cond.instanceMethod yX10_ofModule ∈ wL := List.mem_of_getElem? (i := 253) (by decide +kernel)
theorem mw_254 : Cond.selects RX10 yX10_ofModule yX10_ofModule ∈ wL := List.mem_of_getElem? (i := 254) (by decide +kernel)
theorem mw_255 : Cond.code yX10_ofModule cX10_ofModule 4 (some .int) ∈ wL := List.mem_of_getElem? (i := 255) (by decide +kernel)
theorem mw_256 : Cond.fieldLink RX10 124 "CutoffMill$Rings" "ringOf" "[I" ∈ wL := List.mem_of_getElem? (i := 256) (by decide +kernel)
theorem mw_257 : Cond.fieldLink RX10 102 "CutoffMill$Texts" "importCounts" "[I" ∈ wL := List.mem_of_getElem? (i := 257) (by decide +kernel)
theorem mw_258 : Cond.fieldLink RX10 130 "CutoffMill$Rings" "placeOf" "[I" ∈ wL := List.mem_of_getElem? (i := 258) (by decide +kernel)
theorem mw_259 : Cond.fieldLink RX10 133 "CutoffMill$Rings" "leansOn" "[I" ∈ wL := List.mem_of_getElem? (i := 259) (by decide +kernel)
theorem mw_260 : Cond.methodLink RX10 68 yX10_checkModule ∈ wL := List.mem_of_getElem? (i := 260) (by decide +kernel)
theorem mw_261 : Cond.instanceMethod yX10_checkModule ∈ wL := List.mem_of_getElem? (i := 261) (by decide +kernel)
theorem mw_262 : Cond.selects RX10 yX10_checkModule yX10_checkModule ∈ wL := List.mem_of_getElem? (i := 262) (by decide +kernel)
theorem mw_263 : Cond.code yX10_checkModule cX10_checkModule 2 none ∈ wL := List.mem_of_getElem? (i := 263) (by decide +kernel)
theorem mw_266 : Cond.methodLink RX10 72 yX10_checkWithin ∈ wL := List.mem_of_getElem? (i := 266) (by decide +kernel)
theorem mw_267 : Cond.static yX10_checkWithin ∈ wL := List.mem_of_getElem? (i := 267) (by decide +kernel)
theorem mw_268 : Cond.code yX10_checkWithin cX10_checkWithin 3 none ∈ wL := List.mem_of_getElem? (i := 268) (by decide +kernel)
theorem mw_271 : Cond.methodLink RX10 80 yX8_declarationsOf ∈ wL := List.mem_of_getElem? (i := 271) (by decide +kernel)
theorem mw_272 : Cond.instanceMethod yX8_declarationsOf ∈ wL := List.mem_of_getElem? (i := 272) (by decide +kernel)
theorem mw_273 : Cond.selects RX8 yX8_declarationsOf yX8_declarationsOf ∈ wL := List.mem_of_getElem? (i := 273) (by decide +kernel)
theorem mw_274 : Cond.code yX8_declarationsOf cX8_declarationsOf 4 (some .int) ∈ wL := List.mem_of_getElem? (i := 274) (by decide +kernel)
theorem mw_275 : Cond.methodLink RX8 21 yX8_isDeclared ∈ wL := List.mem_of_getElem? (i := 275) (by decide +kernel)
theorem mw_276 : Cond.methodLink RX10 127 yX6_smallestOf ∈ wL := List.mem_of_getElem? (i := 276) (by decide +kernel)
theorem mw_277 : Cond.static yX6_smallestOf ∈ wL := List.mem_of_getElem? (i := 277) (by decide +kernel)
theorem mw_278 : Cond.code yX6_smallestOf cX6_smallestOf 2 (some .int) ∈ wL := List.mem_of_getElem? (i := 278) (by decide +kernel)
theorem mw_279 : Cond.methodLink RX10 136 yX4_wantedBy ∈ wL := List.mem_of_getElem? (i := 279) (by decide +kernel)
theorem mw_280 : Cond.instanceMethod yX4_wantedBy ∈ wL := List.mem_of_getElem? (i := 280) (by decide +kernel)
theorem mw_281 : Cond.selects RX4 yX4_wantedBy yX4_wantedBy ∈ wL := List.mem_of_getElem? (i := 281) (by decide +kernel)
theorem mw_282 : Cond.code yX4_wantedBy cX4_wantedBy 4 (some .int) ∈ wL := List.mem_of_getElem? (i := 282) (by decide +kernel)
theorem mw_283 : Cond.methodLink RX4 122 yJ6_bitCount_0f7a4 ∈ wL := List.mem_of_getElem? (i := 283) (by decide +kernel)
theorem mw_284 : Cond.static yJ6_bitCount_0f7a4 ∈ wL := List.mem_of_getElem? (i := 284) (by decide +kernel)
theorem mw_285 : Cond.initialized RJ6 ∈ wL := List.mem_of_getElem? (i := 285) (by decide +kernel)
theorem mw_286 : Cond.code yJ6_bitCount_0f7a4 cJ6_bitCount_0f7a4 1 (some .int) ∈ wL := List.mem_of_getElem? (i := 286) (by decide +kernel)
theorem mw_287 : Cond.constant RJ6 265 (1431655765) ∈ wL := List.mem_of_getElem? (i := 287) (by decide +kernel)
theorem mw_288 : Cond.constant RJ6 266 (858993459) ∈ wL := List.mem_of_getElem? (i := 288) (by decide +kernel)
theorem mw_289 : Cond.constant RJ6 267 (252645135) ∈ wL := List.mem_of_getElem? (i := 289) (by decide +kernel)
theorem mw_290 : Cond.methodLink RX10 139 yX9_reasonOf ∈ wL := List.mem_of_getElem? (i := 290) (by decide +kernel)
theorem mw_291 : Cond.instanceMethod yX9_reasonOf ∈ wL := List.mem_of_getElem? (i := 291) (by decide +kernel)
theorem mw_292 : Cond.selects RX9 yX9_reasonOf yX9_reasonOf ∈ wL := List.mem_of_getElem? (i := 292) (by decide +kernel)
theorem mw_293 : Cond.code yX9_reasonOf cX9_reasonOf 3 (some .int) ∈ wL := List.mem_of_getElem? (i := 293) (by decide +kernel)
theorem mw_294 : Cond.methodLink RX9 90 yX9_firstUnbuilt ∈ wL := List.mem_of_getElem? (i := 294) (by decide +kernel)
theorem mw_295 : Cond.instanceMethod yX9_firstUnbuilt ∈ wL := List.mem_of_getElem? (i := 295) (by decide +kernel)
theorem mw_296 : Cond.selects RX9 yX9_firstUnbuilt yX9_firstUnbuilt ∈ wL := List.mem_of_getElem? (i := 296) (by decide +kernel)
theorem mw_297 : Cond.code yX9_firstUnbuilt cX9_firstUnbuilt 3 (some .int) ∈ wL := List.mem_of_getElem? (i := 297) (by decide +kernel)
theorem mw_298 : Cond.fieldLink RX9 113 "CutoffMill$Result" "modules" "I" ∈ wL := List.mem_of_getElem? (i := 298) (by decide +kernel)
theorem mw_299 : Cond.methodLink RX9 109 yX6_has ∈ wL := List.mem_of_getElem? (i := 299) (by decide +kernel)
theorem mw_300 : Cond.methodLink RX9 93 yX9_wasInOtherRing ∈ wL := List.mem_of_getElem? (i := 300) (by decide +kernel)
theorem mw_301 : Cond.instanceMethod yX9_wasInOtherRing ∈ wL := List.mem_of_getElem? (i := 301) (by decide +kernel)
theorem mw_302 : Cond.selects RX9 yX9_wasInOtherRing yX9_wasInOtherRing ∈ wL := List.mem_of_getElem? (i := 302) (by decide +kernel)
theorem mw_303 : Cond.code yX9_wasInOtherRing cX9_wasInOtherRing 3 (some .boolean) ∈ wL := List.mem_of_getElem? (i := 303) (by decide +kernel)
theorem mw_304 : Cond.methodLink RX9 96 yX9_resultOf ∈ wL := List.mem_of_getElem? (i := 304) (by decide +kernel)
theorem mw_305 : Cond.instanceMethod yX9_resultOf ∈ wL := List.mem_of_getElem? (i := 305) (by decide +kernel)
theorem mw_306 : Cond.selects RX9 yX9_resultOf yX9_resultOf ∈ wL := List.mem_of_getElem? (i := 306) (by decide +kernel)
theorem mw_307 : Cond.code yX9_resultOf cX9_resultOf 3 (some (.object "CutoffMill$Result")) ∈ wL := List.mem_of_getElem? (i := 307) (by decide +kernel)
theorem mw_308 : Cond.methodLink RX9 106 yX6_smallestOf ∈ wL := List.mem_of_getElem? (i := 308) (by decide +kernel)
theorem mw_309 : Cond.methodLink RX9 99 yX9_firstOtherText ∈ wL := List.mem_of_getElem? (i := 309) (by decide +kernel)
theorem mw_310 : Cond.instanceMethod yX9_firstOtherText ∈ wL := List.mem_of_getElem? (i := 310) (by decide +kernel)
theorem mw_311 : Cond.selects RX9 yX9_firstOtherText yX9_firstOtherText ∈ wL := List.mem_of_getElem? (i := 311) (by decide +kernel)
theorem mw_312 : Cond.code yX9_firstOtherText cX9_firstOtherText 3 (some .int) ∈ wL := List.mem_of_getElem? (i := 312) (by decide +kernel)
theorem mw_313 : Cond.fieldLink RX9 65 "CutoffMill$Result" "texts" "LCutoffMill$Texts;" ∈ wL := List.mem_of_getElem? (i := 313) (by decide +kernel)
theorem mw_314 : Cond.methodLink RX9 116 yX8_isSame ∈ wL := List.mem_of_getElem? (i := 314) (by decide +kernel)
theorem mw_315 : Cond.instanceMethod yX8_isSame ∈ wL := List.mem_of_getElem? (i := 315) (by decide +kernel)
theorem mw_316 : Cond.selects RX8 yX8_isSame yX8_isSame ∈ wL := List.mem_of_getElem? (i := 316) (by decide +kernel)
theorem mw_317 : Cond.code yX8_isSame cX8_isSame 4 (some .boolean) ∈ wL := List.mem_of_getElem? (i := 317) (by decide +kernel)
theorem mw_318 : Cond.methodLink RX8 33 yX8_importAt ∈ wL := List.mem_of_getElem? (i := 318) (by decide +kernel)
theorem mw_319 : Cond.methodLink RX9 103 yX9_firstOtherAnswer ∈ wL := List.mem_of_getElem? (i := 319) (by decide +kernel)
theorem mw_320 : Cond.instanceMethod yX9_firstOtherAnswer ∈ wL := List.mem_of_getElem? (i := 320) (by decide +kernel)
theorem mw_321 : Cond.selects RX9 yX9_firstOtherAnswer yX9_firstOtherAnswer ∈ wL := List.mem_of_getElem? (i := 321) (by decide +kernel)
theorem mw_322 : Cond.code yX9_firstOtherAnswer cX9_firstOtherAnswer 3 (some .int) ∈ wL := List.mem_of_getElem? (i := 322) (by decide +kernel)
theorem mw_323 : Cond.fieldLink RX9 120 "CutoffMill$Result" "noted" "[J" ∈ wL := List.mem_of_getElem? (i := 323) (by decide +kernel)
theorem mw_324 : Cond.constantLong RX9 124 (-3) ∈ wL := List.mem_of_getElem? (i := 324) (by decide +kernel)
theorem mw_325 : Cond.methodLink RX9 126 yX9_answerTo ∈ wL := List.mem_of_getElem? (i := 325) (by decide +kernel)
theorem mw_326 : Cond.instanceMethod yX9_answerTo ∈ wL := List.mem_of_getElem? (i := 326) (by decide +kernel)
theorem mw_327 : Cond.selects RX9 yX9_answerTo yX9_answerTo ∈ wL := List.mem_of_getElem? (i := 327) (by decide +kernel)
theorem mw_328 : Cond.code yX9_answerTo cX9_answerTo 4 (some .long) ∈ wL := List.mem_of_getElem? (i := 328) (by decide +kernel)
theorem mw_329 : Cond.fieldLink RX9 130 "CutoffMill$Names" "outside" "[I" ∈ wL := List.mem_of_getElem? (i := 329) (by decide +kernel)
theorem mw_330 : Cond.fieldLink RX9 135 "CutoffMill$Result" "answers" "[J" ∈ wL := List.mem_of_getElem? (i := 330) (by decide +kernel)
theorem mw_331 : Cond.methodLink RL 72 yX10_drop ∈ wL := List.mem_of_getElem? (i := 331) (by decide +kernel)
theorem mw_332 : Cond.instanceMethod yX10_drop ∈ wL := List.mem_of_getElem? (i := 332) (by decide +kernel)
theorem mw_333 : Cond.selects RX10 yX10_drop yX10_drop ∈ wL := List.mem_of_getElem? (i := 333) (by decide +kernel)
theorem mw_334 : Cond.code yX10_drop cX10_drop 5 (some .boolean) ∈ wL := List.mem_of_getElem? (i := 334) (by decide +kernel)
theorem mw_335 : Cond.fieldLink RX10 86 "CutoffMill$Texts" "declarations" "[I" ∈ wL := List.mem_of_getElem? (i := 335) (by decide +kernel)
theorem mw_336 : Cond.methodLink RX10 76 yX8_isDeclared ∈ wL := List.mem_of_getElem? (i := 336) (by decide +kernel)
theorem mw_337 : Cond.methodLink RL 76 yX10_leave ∈ wL := List.mem_of_getElem? (i := 337) (by decide +kernel)
theorem mw_338 : Cond.instanceMethod yX10_leave ∈ wL := List.mem_of_getElem? (i := 338) (by decide +kernel)
theorem mw_339 : Cond.selects RX10 yX10_leave yX10_leave ∈ wL := List.mem_of_getElem? (i := 339) (by decide +kernel)
theorem mw_340 : Cond.code yX10_leave cX10_leave 3 (some .int) ∈ wL := List.mem_of_getElem? (i := 340) (by decide +kernel)
theorem mw_341 : Cond.methodLink RX10 121 yX8_removeImport ∈ wL := List.mem_of_getElem? (i := 341) (by decide +kernel)
theorem mw_342 : Cond.instanceMethod yX8_removeImport ∈ wL := List.mem_of_getElem? (i := 342) (by decide +kernel)
theorem mw_343 : Cond.selects RX8 yX8_removeImport yX8_removeImport ∈ wL := List.mem_of_getElem? (i := 343) (by decide +kernel)
theorem mw_344 : Cond.code yX8_removeImport cX8_removeImport 4 none ∈ wL := List.mem_of_getElem? (i := 344) (by decide +kernel)
theorem mw_345 : Cond.methodLink RL 79 yX10_bring ∈ wL := List.mem_of_getElem? (i := 345) (by decide +kernel)
theorem mw_346 : Cond.instanceMethod yX10_bring ∈ wL := List.mem_of_getElem? (i := 346) (by decide +kernel)
theorem mw_347 : Cond.selects RX10 yX10_bring yX10_bring ∈ wL := List.mem_of_getElem? (i := 347) (by decide +kernel)
theorem mw_348 : Cond.code yX10_bring cX10_bring 6 (some .int) ∈ wL := List.mem_of_getElem? (i := 348) (by decide +kernel)
theorem mw_349 : Cond.methodLink RX10 107 yX2_of ∈ wL := List.mem_of_getElem? (i := 349) (by decide +kernel)
theorem mw_350 : Cond.static yX2_of ∈ wL := List.mem_of_getElem? (i := 350) (by decide +kernel)
theorem mw_351 : Cond.code yX2_of cX2_of 4 (some .int) ∈ wL := List.mem_of_getElem? (i := 351) (by decide +kernel)
theorem mw_352 : Cond.methodLink RX10 112 yX8_addImport ∈ wL := List.mem_of_getElem? (i := 352) (by decide +kernel)
theorem mw_353 : Cond.instanceMethod yX8_addImport ∈ wL := List.mem_of_getElem? (i := 353) (by decide +kernel)
theorem mw_354 : Cond.selects RX8 yX8_addImport yX8_addImport ∈ wL := List.mem_of_getElem? (i := 354) (by decide +kernel)
theorem mw_355 : Cond.code yX8_addImport cX8_addImport 3 none ∈ wL := List.mem_of_getElem? (i := 355) (by decide +kernel)
theorem mw_356 : Cond.methodLink RL 83 yX10_declare ∈ wL := List.mem_of_getElem? (i := 356) (by decide +kernel)
theorem mw_357 : Cond.instanceMethod yX10_declare ∈ wL := List.mem_of_getElem? (i := 357) (by decide +kernel)
theorem mw_358 : Cond.selects RX10 yX10_declare yX10_declare ∈ wL := List.mem_of_getElem? (i := 358) (by decide +kernel)
theorem mw_359 : Cond.code yX10_declare cX10_declare 9 (some .int) ∈ wL := List.mem_of_getElem? (i := 359) (by decide +kernel)
theorem mw_360 : Cond.methodLink RX10 89 yX1_of ∈ wL := List.mem_of_getElem? (i := 360) (by decide +kernel)
theorem mw_361 : Cond.static yX1_of ∈ wL := List.mem_of_getElem? (i := 361) (by decide +kernel)
theorem mw_362 : Cond.code yX1_of cX1_of 5 (some .int) ∈ wL := List.mem_of_getElem? (i := 362) (by decide +kernel)
theorem mw_364 : Cond.instanceMethod yX10_wouldBuild ∈ wL := List.mem_of_getElem? (i := 364) (by decide +kernel)
theorem mw_365 : Cond.selects RX10 yX10_wouldBuild yX10_wouldBuild ∈ wL := List.mem_of_getElem? (i := 365) (by decide +kernel)
theorem mw_366 : Cond.code yX10_wouldBuild cX10_wouldBuild 1 (some .int) ∈ wL := List.mem_of_getElem? (i := 366) (by decide +kernel)
theorem mw_367 : Cond.methodLink RX10 241 yX9_startFrom ∈ wL := List.mem_of_getElem? (i := 367) (by decide +kernel)
theorem mw_368 : Cond.instanceMethod yX9_startFrom ∈ wL := List.mem_of_getElem? (i := 368) (by decide +kernel)
theorem mw_369 : Cond.selects RX9 yX9_startFrom yX9_startFrom ∈ wL := List.mem_of_getElem? (i := 369) (by decide +kernel)
theorem mw_370 : Cond.code yX9_startFrom cX9_startFrom 3 none ∈ wL := List.mem_of_getElem? (i := 370) (by decide +kernel)
theorem mw_371 : Cond.methodLink RX9 55 yX8_copy ∈ wL := List.mem_of_getElem? (i := 371) (by decide +kernel)
theorem mw_372 : Cond.instanceMethod yX8_copy ∈ wL := List.mem_of_getElem? (i := 372) (by decide +kernel)
theorem mw_373 : Cond.selects RX8 yX8_copy yX8_copy ∈ wL := List.mem_of_getElem? (i := 373) (by decide +kernel)
theorem mw_374 : Cond.code yX8_copy cX8_copy 2 none ∈ wL := List.mem_of_getElem? (i := 374) (by decide +kernel)
theorem mw_375 : Cond.methodLink RX8 37 arraycopyName ∈ wL := List.mem_of_getElem? (i := 375) (by decide +kernel)
theorem mw_376 : Cond.native arraycopyName ∈ wL := List.mem_of_getElem? (i := 376) (by decide +kernel)
theorem mw_377 : Cond.static arraycopyName ∈ wL := List.mem_of_getElem? (i := 377) (by decide +kernel)
theorem mw_378 : Cond.initialized "java/lang/System" ∈ wL := List.mem_of_getElem? (i := 378) (by decide +kernel)
theorem mw_379 : Cond.fieldLink RX8 25 "CutoffMill$Texts" "moduleCount" "I" ∈ wL := List.mem_of_getElem? (i := 379) (by decide +kernel)
theorem mw_380 : Cond.methodLink RX10 245 yX9_renewAll ∈ wL := List.mem_of_getElem? (i := 380) (by decide +kernel)
theorem mw_381 : Cond.instanceMethod yX9_renewAll ∈ wL := List.mem_of_getElem? (i := 381) (by decide +kernel)
theorem mw_382 : Cond.selects RX9 yX9_renewAll yX9_renewAll ∈ wL := List.mem_of_getElem? (i := 382) (by decide +kernel)
theorem mw_383 : Cond.code yX9_renewAll cX9_renewAll 3 (some .int) ∈ wL := List.mem_of_getElem? (i := 383) (by decide +kernel)
theorem mw_384 : Cond.fieldLink RX9 77 "CutoffMill$Rings" "count" "I" ∈ wL := List.mem_of_getElem? (i := 384) (by decide +kernel)
theorem mw_385 : Cond.fieldLink RX9 83 "CutoffMill$Rings" "order" "[I" ∈ wL := List.mem_of_getElem? (i := 385) (by decide +kernel)
theorem mw_386 : Cond.methodLink RX9 86 yX9_reasonOf ∈ wL := List.mem_of_getElem? (i := 386) (by decide +kernel)
theorem mw_387 : Cond.methodLink RX9 138 yX9_renew ∈ wL := List.mem_of_getElem? (i := 387) (by decide +kernel)
theorem mw_388 : Cond.instanceMethod yX9_renew ∈ wL := List.mem_of_getElem? (i := 388) (by decide +kernel)
theorem mw_389 : Cond.selects RX9 yX9_renew yX9_renew ∈ wL := List.mem_of_getElem? (i := 389) (by decide +kernel)
theorem mw_390 : Cond.code yX9_renew cX9_renew 6 (some .boolean) ∈ wL := List.mem_of_getElem? (i := 390) (by decide +kernel)
theorem mw_391 : Cond.fieldLink RX9 151 "CutoffMill$Store" "kept" "[LCutoffMill$Result;" ∈ wL := List.mem_of_getElem? (i := 391) (by decide +kernel)
theorem mw_392 : Cond.methodLink RX9 148 yX9_placeInStore ∈ wL := List.mem_of_getElem? (i := 392) (by decide +kernel)
theorem mw_393 : Cond.instanceMethod yX9_placeInStore ∈ wL := List.mem_of_getElem? (i := 393) (by decide +kernel)
theorem mw_394 : Cond.selects RX9 yX9_placeInStore yX9_placeInStore ∈ wL := List.mem_of_getElem? (i := 394) (by decide +kernel)
theorem mw_395 : Cond.code yX9_placeInStore cX9_placeInStore 4 (some .int) ∈ wL := List.mem_of_getElem? (i := 395) (by decide +kernel)
theorem mw_396 : Cond.fieldLink RX9 176 "CutoffMill$Store" "count" "I" ∈ wL := List.mem_of_getElem? (i := 396) (by decide +kernel)
theorem mw_397 : Cond.methodLink RX9 154 yX7_makeNewest ∈ wL := List.mem_of_getElem? (i := 397) (by decide +kernel)
theorem mw_398 : Cond.instanceMethod yX7_makeNewest ∈ wL := List.mem_of_getElem? (i := 398) (by decide +kernel)
theorem mw_399 : Cond.selects RX7 yX7_makeNewest yX7_makeNewest ∈ wL := List.mem_of_getElem? (i := 399) (by decide +kernel)
theorem mw_400 : Cond.code yX7_makeNewest cX7_makeNewest 3 none ∈ wL := List.mem_of_getElem? (i := 400) (by decide +kernel)
theorem mw_401 : Cond.methodLink RX7 19 yX7_takeOut ∈ wL := List.mem_of_getElem? (i := 401) (by decide +kernel)
theorem mw_402 : Cond.instanceMethod yX7_takeOut ∈ wL := List.mem_of_getElem? (i := 402) (by decide +kernel)
theorem mw_403 : Cond.selects RX7 yX7_takeOut yX7_takeOut ∈ wL := List.mem_of_getElem? (i := 403) (by decide +kernel)
theorem mw_404 : Cond.code yX7_takeOut cX7_takeOut 3 none ∈ wL := List.mem_of_getElem? (i := 404) (by decide +kernel)
theorem mw_405 : Cond.fieldLink RX7 15 "CutoffMill$Store" "count" "I" ∈ wL := List.mem_of_getElem? (i := 405) (by decide +kernel)
theorem mw_406 : Cond.methodLink RX7 23 yX7_put ∈ wL := List.mem_of_getElem? (i := 406) (by decide +kernel)
theorem mw_407 : Cond.instanceMethod yX7_put ∈ wL := List.mem_of_getElem? (i := 407) (by decide +kernel)
theorem mw_408 : Cond.selects RX7 yX7_put yX7_put ∈ wL := List.mem_of_getElem? (i := 408) (by decide +kernel)
theorem mw_409 : Cond.code yX7_put cX7_put 2 none ∈ wL := List.mem_of_getElem? (i := 409) (by decide +kernel)
theorem mw_410 : Cond.methodLink RX9 157 yX9_freeResult ∈ wL := List.mem_of_getElem? (i := 410) (by decide +kernel)
theorem mw_411 : Cond.instanceMethod yX9_freeResult ∈ wL := List.mem_of_getElem? (i := 411) (by decide +kernel)
theorem mw_412 : Cond.selects RX9 yX9_freeResult yX9_freeResult ∈ wL := List.mem_of_getElem? (i := 412) (by decide +kernel)
theorem mw_413 : Cond.code yX9_freeResult cX9_freeResult 3 (some (.object "CutoffMill$Result")) ∈ wL := List.mem_of_getElem? (i := 413) (by decide +kernel)
theorem mw_414 : Cond.methodLink RX9 177 yX9_isHeld ∈ wL := List.mem_of_getElem? (i := 414) (by decide +kernel)
theorem mw_415 : Cond.instanceMethod yX9_isHeld ∈ wL := List.mem_of_getElem? (i := 415) (by decide +kernel)
theorem mw_416 : Cond.selects RX9 yX9_isHeld yX9_isHeld ∈ wL := List.mem_of_getElem? (i := 416) (by decide +kernel)
theorem mw_417 : Cond.code yX9_isHeld cX9_isHeld 3 (some .boolean) ∈ wL := List.mem_of_getElem? (i := 417) (by decide +kernel)
theorem mw_418 : Cond.methodLink RX9 181 yX7_holds ∈ wL := List.mem_of_getElem? (i := 418) (by decide +kernel)
theorem mw_419 : Cond.instanceMethod yX7_holds ∈ wL := List.mem_of_getElem? (i := 419) (by decide +kernel)
theorem mw_420 : Cond.selects RX7 yX7_holds yX7_holds ∈ wL := List.mem_of_getElem? (i := 420) (by decide +kernel)
theorem mw_421 : Cond.code yX7_holds cX7_holds 3 (some .boolean) ∈ wL := List.mem_of_getElem? (i := 421) (by decide +kernel)
theorem mw_422 : Cond.methodLink RX9 161 yX5_begin ∈ wL := List.mem_of_getElem? (i := 422) (by decide +kernel)
theorem mw_423 : Cond.instanceMethod yX5_begin ∈ wL := List.mem_of_getElem? (i := 423) (by decide +kernel)
theorem mw_424 : Cond.selects RX5 yX5_begin yX5_begin ∈ wL := List.mem_of_getElem? (i := 424) (by decide +kernel)
theorem mw_425 : Cond.code yX5_begin cX5_begin 4 none ∈ wL := List.mem_of_getElem? (i := 425) (by decide +kernel)
theorem mw_426 : Cond.fieldLink RX5 49 "CutoffMill$Result" "modules" "I" ∈ wL := List.mem_of_getElem? (i := 426) (by decide +kernel)
theorem mw_427 : Cond.constantLong RX5 57 (-3) ∈ wL := List.mem_of_getElem? (i := 427) (by decide +kernel)
theorem mw_428 : Cond.methodLink RX5 53 yX8_copy ∈ wL := List.mem_of_getElem? (i := 428) (by decide +kernel)
theorem mw_429 : Cond.methodLink RX5 59 yJ7_fill_d0a16 ∈ wL := List.mem_of_getElem? (i := 429) (by decide +kernel)
theorem mw_430 : Cond.static yJ7_fill_d0a16 ∈ wL := List.mem_of_getElem? (i := 430) (by decide +kernel)
theorem mw_431 : Cond.code yJ7_fill_d0a16 cJ7_fill_d0a16 5 none ∈ wL := List.mem_of_getElem? (i := 431) (by decide +kernel)
theorem mw_432 : Cond.methodLink RX9 165 yX9_noteAnswers ∈ wL := List.mem_of_getElem? (i := 432) (by decide +kernel)
theorem mw_433 : Cond.instanceMethod yX9_noteAnswers ∈ wL := List.mem_of_getElem? (i := 433) (by decide +kernel)
theorem mw_434 : Cond.selects RX9 yX9_noteAnswers yX9_noteAnswers ∈ wL := List.mem_of_getElem? (i := 434) (by decide +kernel)
theorem mw_435 : Cond.code yX9_noteAnswers cX9_noteAnswers 4 none ∈ wL := List.mem_of_getElem? (i := 435) (by decide +kernel)
theorem mw_436 : Cond.methodLink RX9 184 yX4_isWanted ∈ wL := List.mem_of_getElem? (i := 436) (by decide +kernel)
theorem mw_437 : Cond.instanceMethod yX4_isWanted ∈ wL := List.mem_of_getElem? (i := 437) (by decide +kernel)
theorem mw_438 : Cond.selects RX4 yX4_isWanted yX4_isWanted ∈ wL := List.mem_of_getElem? (i := 438) (by decide +kernel)
theorem mw_439 : Cond.code yX4_isWanted cX4_isWanted 3 (some .boolean) ∈ wL := List.mem_of_getElem? (i := 439) (by decide +kernel)
theorem mw_440 : Cond.methodLink RX9 169 yX3_makeStates ∈ wL := List.mem_of_getElem? (i := 440) (by decide +kernel)
theorem mw_441 : Cond.instanceMethod yX3_makeStates ∈ wL := List.mem_of_getElem? (i := 441) (by decide +kernel)
theorem mw_442 : Cond.selects RX3 yX3_makeStates yX3_makeStates ∈ wL := List.mem_of_getElem? (i := 442) (by decide +kernel)
theorem mw_443 : Cond.code yX3_makeStates cX3_makeStates 4 none ∈ wL := List.mem_of_getElem? (i := 443) (by decide +kernel)
theorem mw_444 : Cond.fieldLink RX3 38 "CutoffMill$Result" "modules" "I" ∈ wL := List.mem_of_getElem? (i := 444) (by decide +kernel)
theorem mw_445 : Cond.fieldLink RX3 55 "CutoffMill$Maker" "memberCount" "I" ∈ wL := List.mem_of_getElem? (i := 445) (by decide +kernel)
theorem mw_446 : Cond.fieldLink RX3 62 "CutoffMill$Result" "faults" "[I" ∈ wL := List.mem_of_getElem? (i := 446) (by decide +kernel)
theorem mw_447 : Cond.methodLink RX3 42 yX6_has ∈ wL := List.mem_of_getElem? (i := 447) (by decide +kernel)
theorem mw_448 : Cond.methodLink RX3 48 yX3_findMembers ∈ wL := List.mem_of_getElem? (i := 448) (by decide +kernel)
theorem mw_449 : Cond.instanceMethod yX3_findMembers ∈ wL := List.mem_of_getElem? (i := 449) (by decide +kernel)
theorem mw_450 : Cond.selects RX3 yX3_findMembers yX3_findMembers ∈ wL := List.mem_of_getElem? (i := 450) (by decide +kernel)
theorem mw_451 : Cond.code yX3_findMembers cX3_findMembers 4 none ∈ wL := List.mem_of_getElem? (i := 451) (by decide +kernel)
theorem mw_452 : Cond.fieldLink RX3 77 "CutoffMill$Result" "texts" "LCutoffMill$Texts;" ∈ wL := List.mem_of_getElem? (i := 452) (by decide +kernel)
theorem mw_453 : Cond.fieldLink RX3 86 "CutoffMill$Texts" "declarations" "[I" ∈ wL := List.mem_of_getElem? (i := 453) (by decide +kernel)
theorem mw_454 : Cond.fieldLink RX3 89 "CutoffMill$Result" "isProcedure" "[Z" ∈ wL := List.mem_of_getElem? (i := 454) (by decide +kernel)
theorem mw_455 : Cond.methodLink RX3 81 yX8_isDeclared ∈ wL := List.mem_of_getElem? (i := 455) (by decide +kernel)
theorem mw_456 : Cond.methodLink RX3 92 yX1_isProcedure ∈ wL := List.mem_of_getElem? (i := 456) (by decide +kernel)
theorem mw_457 : Cond.static yX1_isProcedure ∈ wL := List.mem_of_getElem? (i := 457) (by decide +kernel)
theorem mw_458 : Cond.code yX1_isProcedure cX1_isProcedure 1 (some .boolean) ∈ wL := List.mem_of_getElem? (i := 458) (by decide +kernel)
theorem mw_459 : Cond.methodLink RX3 96 yX1_reference ∈ wL := List.mem_of_getElem? (i := 459) (by decide +kernel)
theorem mw_460 : Cond.methodLink RX3 100 yX3_targetOf ∈ wL := List.mem_of_getElem? (i := 460) (by decide +kernel)
theorem mw_461 : Cond.instanceMethod yX3_targetOf ∈ wL := List.mem_of_getElem? (i := 461) (by decide +kernel)
theorem mw_462 : Cond.selects RX3 yX3_targetOf yX3_targetOf ∈ wL := List.mem_of_getElem? (i := 462) (by decide +kernel)
theorem mw_463 : Cond.code yX3_targetOf cX3_targetOf 3 (some .int) ∈ wL := List.mem_of_getElem? (i := 463) (by decide +kernel)
theorem mw_464 : Cond.fieldLink RX3 103 "CutoffMill$Names" "within" "[I" ∈ wL := List.mem_of_getElem? (i := 464) (by decide +kernel)
theorem mw_465 : Cond.methodLink RX3 52 yX3_findDirectFaults ∈ wL := List.mem_of_getElem? (i := 465) (by decide +kernel)
theorem mw_466 : Cond.instanceMethod yX3_findDirectFaults ∈ wL := List.mem_of_getElem? (i := 466) (by decide +kernel)
theorem mw_467 : Cond.selects RX3 yX3_findDirectFaults yX3_findDirectFaults ∈ wL := List.mem_of_getElem? (i := 467) (by decide +kernel)
theorem mw_468 : Cond.code yX3_findDirectFaults cX3_findDirectFaults 7 none ∈ wL := List.mem_of_getElem? (i := 468) (by decide +kernel)
theorem mw_469 : Cond.static yX10_clear ∈ wL := List.mem_of_getElem? (i := 469) (by decide +kernel)
theorem mw_470 : Cond.code yX10_clear cX10_clear 2 none ∈ wL := List.mem_of_getElem? (i := 470) (by decide +kernel)
theorem mw_471 : Cond.methodLink RX3 112 yX3_directFault ∈ wL := List.mem_of_getElem? (i := 471) (by decide +kernel)
theorem mw_472 : Cond.instanceMethod yX3_directFault ∈ wL := List.mem_of_getElem? (i := 472) (by decide +kernel)
theorem mw_473 : Cond.selects RX3 yX3_directFault yX3_directFault ∈ wL := List.mem_of_getElem? (i := 473) (by decide +kernel)
theorem mw_474 : Cond.code yX3_directFault cX3_directFault 3 (some .int) ∈ wL := List.mem_of_getElem? (i := 474) (by decide +kernel)
theorem mw_475 : Cond.methodLink RX3 58 yX3_comesBack ∈ wL := List.mem_of_getElem? (i := 475) (by decide +kernel)
theorem mw_476 : Cond.instanceMethod yX3_comesBack ∈ wL := List.mem_of_getElem? (i := 476) (by decide +kernel)
theorem mw_477 : Cond.selects RX3 yX3_comesBack yX3_comesBack ∈ wL := List.mem_of_getElem? (i := 477) (by decide +kernel)
theorem mw_478 : Cond.code yX3_comesBack cX3_comesBack 6 (some .boolean) ∈ wL := List.mem_of_getElem? (i := 478) (by decide +kernel)
theorem mw_479 : Cond.methodLink RX3 65 yX3_spreadFaults ∈ wL := List.mem_of_getElem? (i := 479) (by decide +kernel)
theorem mw_480 : Cond.instanceMethod yX3_spreadFaults ∈ wL := List.mem_of_getElem? (i := 480) (by decide +kernel)
theorem mw_481 : Cond.selects RX3 yX3_spreadFaults yX3_spreadFaults ∈ wL := List.mem_of_getElem? (i := 481) (by decide +kernel)
theorem mw_482 : Cond.code yX3_spreadFaults cX3_spreadFaults 6 none ∈ wL := List.mem_of_getElem? (i := 482) (by decide +kernel)
theorem mw_483 : Cond.methodLink RX3 116 yX3_isFaulty ∈ wL := List.mem_of_getElem? (i := 483) (by decide +kernel)
theorem mw_484 : Cond.instanceMethod yX3_isFaulty ∈ wL := List.mem_of_getElem? (i := 484) (by decide +kernel)
theorem mw_485 : Cond.selects RX3 yX3_isFaulty yX3_isFaulty ∈ wL := List.mem_of_getElem? (i := 485) (by decide +kernel)
theorem mw_486 : Cond.code yX3_isFaulty cX3_isFaulty 2 (some .boolean) ∈ wL := List.mem_of_getElem? (i := 486) (by decide +kernel)
theorem mw_487 : Cond.methodLink RX3 68 yX3_findPlain ∈ wL := List.mem_of_getElem? (i := 487) (by decide +kernel)
theorem mw_488 : Cond.instanceMethod yX3_findPlain ∈ wL := List.mem_of_getElem? (i := 488) (by decide +kernel)
theorem mw_489 : Cond.selects RX3 yX3_findPlain yX3_findPlain ∈ wL := List.mem_of_getElem? (i := 489) (by decide +kernel)
theorem mw_490 : Cond.code yX3_findPlain cX3_findPlain 6 none ∈ wL := List.mem_of_getElem? (i := 490) (by decide +kernel)
theorem mw_491 : Cond.fieldLink RX3 119 "CutoffMill$Result" "isPlain" "[Z" ∈ wL := List.mem_of_getElem? (i := 491) (by decide +kernel)
theorem mw_492 : Cond.fieldLink RX3 125 "CutoffMill$Result" "numbers" "[I" ∈ wL := List.mem_of_getElem? (i := 492) (by decide +kernel)
theorem mw_493 : Cond.methodLink RX3 122 yX3_isNoCall ∈ wL := List.mem_of_getElem? (i := 493) (by decide +kernel)
theorem mw_494 : Cond.instanceMethod yX3_isNoCall ∈ wL := List.mem_of_getElem? (i := 494) (by decide +kernel)
theorem mw_495 : Cond.selects RX3 yX3_isNoCall yX3_isNoCall ∈ wL := List.mem_of_getElem? (i := 495) (by decide +kernel)
theorem mw_496 : Cond.code yX3_isNoCall cX3_isNoCall 2 (some .boolean) ∈ wL := List.mem_of_getElem? (i := 496) (by decide +kernel)
theorem mw_497 : Cond.methodLink RX3 128 yX3_numberWithTargets ∈ wL := List.mem_of_getElem? (i := 497) (by decide +kernel)
theorem mw_498 : Cond.instanceMethod yX3_numberWithTargets ∈ wL := List.mem_of_getElem? (i := 498) (by decide +kernel)
theorem mw_499 : Cond.selects RX3 yX3_numberWithTargets yX3_numberWithTargets ∈ wL := List.mem_of_getElem? (i := 499) (by decide +kernel)
theorem mw_500 : Cond.code yX3_numberWithTargets cX3_numberWithTargets 6 (some .int) ∈ wL := List.mem_of_getElem? (i := 500) (by decide +kernel)
theorem mw_501 : Cond.methodLink RX3 132 yX1_numberOf ∈ wL := List.mem_of_getElem? (i := 501) (by decide +kernel)
theorem mw_502 : Cond.static yX1_numberOf ∈ wL := List.mem_of_getElem? (i := 502) (by decide +kernel)
theorem mw_503 : Cond.code yX1_numberOf cX1_numberOf 1 (some .int) ∈ wL := List.mem_of_getElem? (i := 503) (by decide +kernel)
theorem mw_504 : Cond.methodLink RX3 71 yX3_findCalls ∈ wL := List.mem_of_getElem? (i := 504) (by decide +kernel)
theorem mw_505 : Cond.instanceMethod yX3_findCalls ∈ wL := List.mem_of_getElem? (i := 505) (by decide +kernel)
theorem mw_506 : Cond.selects RX3 yX3_findCalls yX3_findCalls ∈ wL := List.mem_of_getElem? (i := 506) (by decide +kernel)
theorem mw_507 : Cond.code yX3_findCalls cX3_findCalls 4 none ∈ wL := List.mem_of_getElem? (i := 507) (by decide +kernel)
theorem mw_508 : Cond.methodLink RX3 136 yX3_addCall ∈ wL := List.mem_of_getElem? (i := 508) (by decide +kernel)
theorem mw_509 : Cond.instanceMethod yX3_addCall ∈ wL := List.mem_of_getElem? (i := 509) (by decide +kernel)
theorem mw_510 : Cond.selects RX3 yX3_addCall yX3_addCall ∈ wL := List.mem_of_getElem? (i := 510) (by decide +kernel)
theorem mw_511 : Cond.code yX3_addCall cX3_addCall 4 none ∈ wL := List.mem_of_getElem? (i := 511) (by decide +kernel)
theorem mw_512 : Cond.fieldLink RX3 140 "CutoffMill$Result" "firstCalls" "[I" ∈ wL := List.mem_of_getElem? (i := 512) (by decide +kernel)
theorem mw_513 : Cond.fieldLink RX3 143 "CutoffMill$Result" "secondCalls" "[I" ∈ wL := List.mem_of_getElem? (i := 513) (by decide +kernel)
theorem mw_514 : Cond.methodLink RX3 74 yX3_tellAnswers ∈ wL := List.mem_of_getElem? (i := 514) (by decide +kernel)
theorem mw_515 : Cond.instanceMethod yX3_tellAnswers ∈ wL := List.mem_of_getElem? (i := 515) (by decide +kernel)
theorem mw_516 : Cond.selects RX3 yX3_tellAnswers yX3_tellAnswers ∈ wL := List.mem_of_getElem? (i := 516) (by decide +kernel)
theorem mw_517 : Cond.code yX3_tellAnswers cX3_tellAnswers 5 none ∈ wL := List.mem_of_getElem? (i := 517) (by decide +kernel)
theorem mw_518 : Cond.fieldLink RX3 146 "CutoffMill$Result" "answers" "[J" ∈ wL := List.mem_of_getElem? (i := 518) (by decide +kernel)
theorem mw_519 : Cond.methodLink RX3 150 yX0_of ∈ wL := List.mem_of_getElem? (i := 519) (by decide +kernel)
theorem mw_520 : Cond.methodLink RX9 173 yX7_put ∈ wL := List.mem_of_getElem? (i := 520) (by decide +kernel)
theorem mw_522 : Cond.instanceMethod yX10_rounds ∈ wL := List.mem_of_getElem? (i := 522) (by decide +kernel)
theorem mw_523 : Cond.selects RX10 yX10_rounds yX10_rounds ∈ wL := List.mem_of_getElem? (i := 523) (by decide +kernel)
theorem mw_524 : Cond.code yX10_rounds cX10_rounds 3 (some .int) ∈ wL := List.mem_of_getElem? (i := 524) (by decide +kernel)
theorem mw_525 : Cond.methodLink RX10 252 yX9_renewRound ∈ wL := List.mem_of_getElem? (i := 525) (by decide +kernel)
theorem mw_526 : Cond.instanceMethod yX9_renewRound ∈ wL := List.mem_of_getElem? (i := 526) (by decide +kernel)
theorem mw_527 : Cond.selects RX9 yX9_renewRound yX9_renewRound ∈ wL := List.mem_of_getElem? (i := 527) (by decide +kernel)
theorem mw_528 : Cond.code yX9_renewRound cX9_renewRound 7 (some .int) ∈ wL := List.mem_of_getElem? (i := 528) (by decide +kernel)
theorem mw_529 : Cond.fieldLink RX9 145 "CutoffMill$Rings" "reach" "[I" ∈ wL := List.mem_of_getElem? (i := 529) (by decide +kernel)
theorem mw_530 : Cond.methodLink RX9 141 yX9_staleModules ∈ wL := List.mem_of_getElem? (i := 530) (by decide +kernel)
theorem mw_531 : Cond.instanceMethod yX9_staleModules ∈ wL := List.mem_of_getElem? (i := 531) (by decide +kernel)
theorem mw_532 : Cond.selects RX9 yX9_staleModules yX9_staleModules ∈ wL := List.mem_of_getElem? (i := 532) (by decide +kernel)
theorem mw_533 : Cond.code yX9_staleModules cX9_staleModules 3 (some .int) ∈ wL := List.mem_of_getElem? (i := 533) (by decide +kernel)
theorem mw_534 : Cond.methodLink RL 37 yX10_many ∈ wL := List.mem_of_getElem? (i := 534) (by decide +kernel)
theorem mw_535 : Cond.instanceMethod yX10_many ∈ wL := List.mem_of_getElem? (i := 535) (by decide +kernel)
theorem mw_536 : Cond.selects RX10 yX10_many yX10_many ∈ wL := List.mem_of_getElem? (i := 536) (by decide +kernel)
theorem mw_537 : Cond.code yX10_many cX10_many 2 (some .int) ∈ wL := List.mem_of_getElem? (i := 537) (by decide +kernel)
theorem mw_538 : Cond.fieldLink RX10 171 "CutoffMill$Rings" "count" "I" ∈ wL := List.mem_of_getElem? (i := 538) (by decide +kernel)
theorem mw_539 : Cond.fieldLink RX10 228 "CutoffMill$Works" "store" "LCutoffMill$Store;" ∈ wL := List.mem_of_getElem? (i := 539) (by decide +kernel)
theorem mw_540 : Cond.fieldLink RX10 232 "CutoffMill$Store" "count" "I" ∈ wL := List.mem_of_getElem? (i := 540) (by decide +kernel)
theorem mw_541 : Cond.fieldLink RX10 235 "CutoffMill" "ringsBuilt" "I" ∈ wL := List.mem_of_getElem? (i := 541) (by decide +kernel)
theorem mw_542 : Cond.fieldLink RX10 238 "CutoffMill" "ringsFetched" "I" ∈ wL := List.mem_of_getElem? (i := 542) (by decide +kernel)
theorem mw_543 : Cond.fieldLink RX10 168 "CutoffMill" "builds" "I" ∈ wL := List.mem_of_getElem? (i := 543) (by decide +kernel)
theorem mw_544 : Cond.methodLink RX10 215 yX8_allDeclarations ∈ wL := List.mem_of_getElem? (i := 544) (by decide +kernel)
theorem mw_545 : Cond.instanceMethod yX8_allDeclarations ∈ wL := List.mem_of_getElem? (i := 545) (by decide +kernel)
theorem mw_546 : Cond.selects RX8 yX8_allDeclarations yX8_allDeclarations ∈ wL := List.mem_of_getElem? (i := 546) (by decide +kernel)
theorem mw_547 : Cond.code yX8_allDeclarations cX8_allDeclarations 3 (some .int) ∈ wL := List.mem_of_getElem? (i := 547) (by decide +kernel)
theorem mw_548 : Cond.methodLink RX8 29 yX8_declarationsOf ∈ wL := List.mem_of_getElem? (i := 548) (by decide +kernel)
theorem mw_549 : Cond.methodLink RX10 219 yX8_allImports ∈ wL := List.mem_of_getElem? (i := 549) (by decide +kernel)
theorem mw_550 : Cond.instanceMethod yX8_allImports ∈ wL := List.mem_of_getElem? (i := 550) (by decide +kernel)
theorem mw_551 : Cond.selects RX8 yX8_allImports yX8_allImports ∈ wL := List.mem_of_getElem? (i := 551) (by decide +kernel)
theorem mw_552 : Cond.code yX8_allImports cX8_allImports 3 (some .int) ∈ wL := List.mem_of_getElem? (i := 552) (by decide +kernel)
theorem mw_553 : Cond.methodLink RX10 222 yX9_staleCount ∈ wL := List.mem_of_getElem? (i := 553) (by decide +kernel)
theorem mw_554 : Cond.instanceMethod yX9_staleCount ∈ wL := List.mem_of_getElem? (i := 554) (by decide +kernel)
theorem mw_555 : Cond.selects RX9 yX9_staleCount yX9_staleCount ∈ wL := List.mem_of_getElem? (i := 555) (by decide +kernel)
theorem mw_556 : Cond.code yX9_staleCount cX9_staleCount 3 (some .int) ∈ wL := List.mem_of_getElem? (i := 556) (by decide +kernel)
theorem mw_557 : Cond.methodLink RX10 225 yX9_faultCount ∈ wL := List.mem_of_getElem? (i := 557) (by decide +kernel)
theorem mw_558 : Cond.instanceMethod yX9_faultCount ∈ wL := List.mem_of_getElem? (i := 558) (by decide +kernel)
theorem mw_559 : Cond.selects RX9 yX9_faultCount yX9_faultCount ∈ wL := List.mem_of_getElem? (i := 559) (by decide +kernel)
theorem mw_560 : Cond.code yX9_faultCount cX9_faultCount 3 (some .int) ∈ wL := List.mem_of_getElem? (i := 560) (by decide +kernel)
theorem mw_561 : Cond.methodLink RX9 74 yX9_isFaulty ∈ wL := List.mem_of_getElem? (i := 561) (by decide +kernel)
theorem mw_562 : Cond.instanceMethod yX9_isFaulty ∈ wL := List.mem_of_getElem? (i := 562) (by decide +kernel)
theorem mw_563 : Cond.selects RX9 yX9_isFaulty yX9_isFaulty ∈ wL := List.mem_of_getElem? (i := 563) (by decide +kernel)
theorem mw_564 : Cond.code yX9_isFaulty cX9_isFaulty 3 (some .boolean) ∈ wL := List.mem_of_getElem? (i := 564) (by decide +kernel)
theorem mw_565 : Cond.fieldLink RX9 70 "CutoffMill$Result" "faults" "[I" ∈ wL := List.mem_of_getElem? (i := 565) (by decide +kernel)
theorem mw_566 : Cond.methodLink RX9 61 yX9_stateOf ∈ wL := List.mem_of_getElem? (i := 566) (by decide +kernel)
theorem mw_567 : Cond.instanceMethod yX9_stateOf ∈ wL := List.mem_of_getElem? (i := 567) (by decide +kernel)
theorem mw_568 : Cond.selects RX9 yX9_stateOf yX9_stateOf ∈ wL := List.mem_of_getElem? (i := 568) (by decide +kernel)
theorem mw_569 : Cond.code yX9_stateOf cX9_stateOf 2 (some (.object "CutoffMill$Result")) ∈ wL := List.mem_of_getElem? (i := 569) (by decide +kernel)
theorem mw_570 : Cond.methodLink RX9 66 yX8_isDeclared ∈ wL := List.mem_of_getElem? (i := 570) (by decide +kernel)
theorem mw_575 : Cond.fieldLink RX10 174 "CutoffMill$Rings" "order" "[I" ∈ wL := List.mem_of_getElem? (i := 575) (by decide +kernel)
theorem mw_576 : Cond.methodLink RX10 177 yX9_renew ∈ wL := List.mem_of_getElem? (i := 576) (by decide +kernel)
theorem mw_577 : Cond.methodLink RX10 180 yX10_countRenewal ∈ wL := List.mem_of_getElem? (i := 577) (by decide +kernel)
theorem mw_578 : Cond.instanceMethod yX10_countRenewal ∈ wL := List.mem_of_getElem? (i := 578) (by decide +kernel)
theorem mw_579 : Cond.selects RX10 yX10_countRenewal yX10_countRenewal ∈ wL := List.mem_of_getElem? (i := 579) (by decide +kernel)
theorem mw_580 : Cond.code yX10_countRenewal cX10_countRenewal 5 none ∈ wL := List.mem_of_getElem? (i := 580) (by decide +kernel)
theorem mw_581 : Cond.methodLink RX10 306 yX6_has ∈ wL := List.mem_of_getElem? (i := 581) (by decide +kernel)
theorem mw_583 : Cond.instanceMethod yX10_isAsNew ∈ wL := List.mem_of_getElem? (i := 583) (by decide +kernel)
theorem mw_584 : Cond.selects RX10 yX10_isAsNew yX10_isAsNew ∈ wL := List.mem_of_getElem? (i := 584) (by decide +kernel)
theorem mw_585 : Cond.code yX10_isAsNew cX10_isAsNew 1 (some .boolean) ∈ wL := List.mem_of_getElem? (i := 585) (by decide +kernel)
theorem mw_589 : Cond.constant RL 65 (-1000000) ∈ wL := List.mem_of_getElem? (i := 589) (by decide +kernel)
theorem mw_590 : Cond.methodLink RL 62 yX10_built ∈ wL := List.mem_of_getElem? (i := 590) (by decide +kernel)
theorem mw_591 : Cond.instanceMethod yX10_built ∈ wL := List.mem_of_getElem? (i := 591) (by decide +kernel)
theorem mw_592 : Cond.selects RX10 yX10_built yX10_built ∈ wL := List.mem_of_getElem? (i := 592) (by decide +kernel)
theorem mw_593 : Cond.code yX10_built cX10_built 6 (some .int) ∈ wL := List.mem_of_getElem? (i := 593) (by decide +kernel)
theorem mw_594 : Cond.fieldLink RX10 194 "CutoffMill$Result" "texts" "LCutoffMill$Texts;" ∈ wL := List.mem_of_getElem? (i := 594) (by decide +kernel)
theorem mw_595 : Cond.fieldLink RX10 195 "CutoffMill$Result" "faults" "[I" ∈ wL := List.mem_of_getElem? (i := 595) (by decide +kernel)
theorem mw_596 : Cond.fieldLink RX10 156 "CutoffMill$Result" "answers" "[J" ∈ wL := List.mem_of_getElem? (i := 596) (by decide +kernel)
theorem mw_597 : Cond.fieldLink RX10 198 "CutoffMill$Result" "numbers" "[I" ∈ wL := List.mem_of_getElem? (i := 597) (by decide +kernel)
theorem mw_598 : Cond.fieldLink RX10 204 "CutoffMill$Result" "firstCalls" "[I" ∈ wL := List.mem_of_getElem? (i := 598) (by decide +kernel)
theorem mw_599 : Cond.methodLink RX10 152 yX9_stateOf ∈ wL := List.mem_of_getElem? (i := 599) (by decide +kernel)
theorem mw_600 : Cond.methodLink RX10 162 yX0_trait ∈ wL := List.mem_of_getElem? (i := 600) (by decide +kernel)
theorem mw_601 : Cond.static yX0_trait ∈ wL := List.mem_of_getElem? (i := 601) (by decide +kernel)
theorem mw_602 : Cond.code yX0_trait cX0_trait 3 (some .int) ∈ wL := List.mem_of_getElem? (i := 602) (by decide +kernel)
theorem mw_603 : Cond.methodLink RX10 201 yX5_callCount ∈ wL := List.mem_of_getElem? (i := 603) (by decide +kernel)
theorem mw_604 : Cond.instanceMethod yX5_callCount ∈ wL := List.mem_of_getElem? (i := 604) (by decide +kernel)
theorem mw_605 : Cond.selects RX5 yX5_callCount yX5_callCount ∈ wL := List.mem_of_getElem? (i := 605) (by decide +kernel)
theorem mw_606 : Cond.code yX5_callCount cX5_callCount 2 (some .int) ∈ wL := List.mem_of_getElem? (i := 606) (by decide +kernel)
theorem mw_607 : Cond.methodLink RX10 145 yX10_partOf ∈ wL := List.mem_of_getElem? (i := 607) (by decide +kernel)
theorem mw_608 : Cond.static yX10_partOf ∈ wL := List.mem_of_getElem? (i := 608) (by decide +kernel)
theorem mw_609 : Cond.code yX10_partOf cX10_partOf 2 (some .int) ∈ wL := List.mem_of_getElem? (i := 609) (by decide +kernel)
theorem mw_610 : Cond.methodLink RL 51 yX10_run ∈ wL := List.mem_of_getElem? (i := 610) (by decide +kernel)
theorem mw_611 : Cond.instanceMethod yX10_run ∈ wL := List.mem_of_getElem? (i := 611) (by decide +kernel)
theorem mw_612 : Cond.selects RX10 yX10_run yX10_run ∈ wL := List.mem_of_getElem? (i := 612) (by decide +kernel)
theorem mw_613 : Cond.code yX10_run cX10_run 3 (some .int) ∈ wL := List.mem_of_getElem? (i := 613) (by decide +kernel)
theorem mw_614 : Cond.methodLink RX10 212 yX10_valueOf ∈ wL := List.mem_of_getElem? (i := 614) (by decide +kernel)
theorem mw_615 : Cond.instanceMethod yX10_valueOf ∈ wL := List.mem_of_getElem? (i := 615) (by decide +kernel)
theorem mw_616 : Cond.selects RX10 yX10_valueOf yX10_valueOf ∈ wL := List.mem_of_getElem? (i := 616) (by decide +kernel)
theorem mw_617 : Cond.code yX10_valueOf cX10_valueOf 8 (some .int) ∈ wL := List.mem_of_getElem? (i := 617) (by decide +kernel)
theorem mw_618 : Cond.constant RX10 313 (-1000000) ∈ wL := List.mem_of_getElem? (i := 618) (by decide +kernel)
theorem mw_619 : Cond.fieldLink RX10 314 "CutoffMill$Result" "secondCalls" "[I" ∈ wL := List.mem_of_getElem? (i := 619) (by decide +kernel)
theorem mw_620 : Cond.methodLink RX10 317 yX10_openCall ∈ wL := List.mem_of_getElem? (i := 620) (by decide +kernel)
theorem mw_621 : Cond.instanceMethod yX10_openCall ∈ wL := List.mem_of_getElem? (i := 621) (by decide +kernel)
theorem mw_622 : Cond.selects RX10 yX10_openCall yX10_openCall ∈ wL := List.mem_of_getElem? (i := 622) (by decide +kernel)
theorem mw_623 : Cond.code yX10_openCall cX10_openCall 4 (some .int) ∈ wL := List.mem_of_getElem? (i := 623) (by decide +kernel)
theorem mw_624 : Cond.methodLink RL 66 yX10_fault ∈ wL := List.mem_of_getElem? (i := 624) (by decide +kernel)
theorem mw_625 : Cond.instanceMethod yX10_fault ∈ wL := List.mem_of_getElem? (i := 625) (by decide +kernel)
theorem mw_626 : Cond.selects RX10 yX10_fault yX10_fault ∈ wL := List.mem_of_getElem? (i := 626) (by decide +kernel)
theorem mw_627 : Cond.code yX10_fault cX10_fault 4 (some .int) ∈ wL := List.mem_of_getElem? (i := 627) (by decide +kernel)
theorem mw_628 : Cond.methodLink RX10 207 yX10_slotOfFault ∈ wL := List.mem_of_getElem? (i := 628) (by decide +kernel)
theorem mw_629 : Cond.instanceMethod yX10_slotOfFault ∈ wL := List.mem_of_getElem? (i := 629) (by decide +kernel)
theorem mw_630 : Cond.selects RX10 yX10_slotOfFault yX10_slotOfFault ∈ wL := List.mem_of_getElem? (i := 630) (by decide +kernel)
theorem mw_631 : Cond.code yX10_slotOfFault cX10_slotOfFault 4 (some .int) ∈ wL := List.mem_of_getElem? (i := 631) (by decide +kernel)
theorem mw_632 : Cond.methodLink RX10 310 yX9_isFaulty ∈ wL := List.mem_of_getElem? (i := 632) (by decide +kernel)
theorem mw_637 : Cond.constantLong RX10 255 (58138) ∈ wL := List.mem_of_getElem? (i := 637) (by decide +kernel)
theorem mw_638 : Cond.constantLong RX10 257 (31) ∈ wL := List.mem_of_getElem? (i := 638) (by decide +kernel)
theorem mw_639 : Cond.methodLink RX10 259 yX10_many ∈ wL := List.mem_of_getElem? (i := 639) (by decide +kernel)
theorem mw_640 : Cond.methodLink RX10 262 yX10_digestOfModule ∈ wL := List.mem_of_getElem? (i := 640) (by decide +kernel)
theorem mw_641 : Cond.instanceMethod yX10_digestOfModule ∈ wL := List.mem_of_getElem? (i := 641) (by decide +kernel)
theorem mw_642 : Cond.selects RX10 yX10_digestOfModule yX10_digestOfModule ∈ wL := List.mem_of_getElem? (i := 642) (by decide +kernel)
theorem mw_643 : Cond.code yX10_digestOfModule cX10_digestOfModule 7 (some .long) ∈ wL := List.mem_of_getElem? (i := 643) (by decide +kernel)
theorem mw_644 : Cond.methodLink RX10 279 yX10_ofModule ∈ wL := List.mem_of_getElem? (i := 644) (by decide +kernel)
theorem mw_645 : Cond.methodLink RX10 282 yX10_why ∈ wL := List.mem_of_getElem? (i := 645) (by decide +kernel)
theorem mw_646 : Cond.instanceMethod yX10_why ∈ wL := List.mem_of_getElem? (i := 646) (by decide +kernel)
theorem mw_647 : Cond.selects RX10 yX10_why yX10_why ∈ wL := List.mem_of_getElem? (i := 647) (by decide +kernel)
theorem mw_648 : Cond.code yX10_why cX10_why 5 (some .int) ∈ wL := List.mem_of_getElem? (i := 648) (by decide +kernel)
theorem mw_649 : Cond.methodLink RX10 184 yX9_culpritOf ∈ wL := List.mem_of_getElem? (i := 649) (by decide +kernel)
theorem mw_650 : Cond.instanceMethod yX9_culpritOf ∈ wL := List.mem_of_getElem? (i := 650) (by decide +kernel)
theorem mw_651 : Cond.selects RX9 yX9_culpritOf yX9_culpritOf ∈ wL := List.mem_of_getElem? (i := 651) (by decide +kernel)
theorem mw_652 : Cond.code yX9_culpritOf cX9_culpritOf 3 (some .int) ∈ wL := List.mem_of_getElem? (i := 652) (by decide +kernel)
theorem mw_653 : Cond.methodLink RX10 187 yX9_resultOf ∈ wL := List.mem_of_getElem? (i := 653) (by decide +kernel)
theorem mw_654 : Cond.methodLink RX10 190 yX9_firstOtherAnswer ∈ wL := List.mem_of_getElem? (i := 654) (by decide +kernel)
theorem mw_655 : Cond.methodLink RX10 285 yX10_digestOfName ∈ wL := List.mem_of_getElem? (i := 655) (by decide +kernel)
theorem mw_656 : Cond.instanceMethod yX10_digestOfName ∈ wL := List.mem_of_getElem? (i := 656) (by decide +kernel)
theorem mw_657 : Cond.selects RX10 yX10_digestOfName yX10_digestOfName ∈ wL := List.mem_of_getElem? (i := 657) (by decide +kernel)
theorem mw_658 : Cond.code yX10_digestOfName cX10_digestOfName 8 (some .long) ∈ wL := List.mem_of_getElem? (i := 658) (by decide +kernel)
theorem mw_659 : Cond.methodLink RX10 289 yX10_within ∈ wL := List.mem_of_getElem? (i := 659) (by decide +kernel)
theorem mw_660 : Cond.instanceMethod yX10_within ∈ wL := List.mem_of_getElem? (i := 660) (by decide +kernel)
theorem mw_661 : Cond.selects RX10 yX10_within yX10_within ∈ wL := List.mem_of_getElem? (i := 661) (by decide +kernel)
theorem mw_662 : Cond.code yX10_within cX10_within 4 (some .int) ∈ wL := List.mem_of_getElem? (i := 662) (by decide +kernel)
theorem mw_663 : Cond.fieldLink RX10 142 "CutoffMill$Names" "within" "[I" ∈ wL := List.mem_of_getElem? (i := 663) (by decide +kernel)
theorem mw_664 : Cond.methodLink RX10 292 yX10_outside ∈ wL := List.mem_of_getElem? (i := 664) (by decide +kernel)
theorem mw_665 : Cond.instanceMethod yX10_outside ∈ wL := List.mem_of_getElem? (i := 665) (by decide +kernel)
theorem mw_666 : Cond.selects RX10 yX10_outside yX10_outside ∈ wL := List.mem_of_getElem? (i := 666) (by decide +kernel)
theorem mw_667 : Cond.code yX10_outside cX10_outside 5 (some .int) ∈ wL := List.mem_of_getElem? (i := 667) (by decide +kernel)
theorem mw_668 : Cond.fieldLink RX10 149 "CutoffMill$Names" "outside" "[I" ∈ wL := List.mem_of_getElem? (i := 668) (by decide +kernel)
theorem mw_669 : Cond.methodLink RX10 294 yX10_built ∈ wL := List.mem_of_getElem? (i := 669) (by decide +kernel)
theorem mw_670 : Cond.methodLink RX10 297 yX10_run ∈ wL := List.mem_of_getElem? (i := 670) (by decide +kernel)
theorem mw_671 : Cond.methodLink RX10 266 yX10_fault ∈ wL := List.mem_of_getElem? (i := 671) (by decide +kernel)
theorem mw_672 : Cond.methodLink RX10 269 yX10_wouldBuild ∈ wL := List.mem_of_getElem? (i := 672) (by decide +kernel)
theorem mw_673 : Cond.methodLink RX10 272 yX10_rounds ∈ wL := List.mem_of_getElem? (i := 673) (by decide +kernel)
theorem mw_674 : Cond.methodLink RX10 275 yX10_isAsNew ∈ wL := List.mem_of_getElem? (i := 674) (by decide +kernel)
theorem mw_679 : Cond.fieldLink RX10 248 "CutoffMill$Works" "texts" "LCutoffMill$Texts;" ∈ wL := List.mem_of_getElem? (i := 679) (by decide +kernel)
theorem mw_680 : Cond.methodLink RX10 249 yX1_withNumber ∈ wL := List.mem_of_getElem? (i := 680) (by decide +kernel)
theorem mw_681 : Cond.static yX1_withNumber ∈ wL := List.mem_of_getElem? (i := 681) (by decide +kernel)
theorem mw_682 : Cond.code yX1_withNumber cX1_withNumber 2 (some .int) ∈ wL := List.mem_of_getElem? (i := 682) (by decide +kernel)
end
section
theorem dX0_of_0 : decode cX0_of 0 = .ok (.iload_n 0, 1) := by decide +kernel
theorem dX0_of_1 : decode cX0_of 1 = .ok (.sipush 128, 3) := by decide +kernel
theorem dX0_of_4 : decode cX0_of 4 = .ok (.ior, 1) := by decide +kernel
theorem dX0_of_5 : decode cX0_of 5 = .ok (.iload_n 1, 1) := by decide +kernel
theorem dX0_of_6 : decode cX0_of 6 = .ok (.ifCond .eq 9, 3) := by decide +kernel
theorem dX0_of_9 : decode cX0_of 9 = .ok (.sipush 256, 3) := by decide +kernel
theorem dX0_of_12 : decode cX0_of 12 = .ok (.goto 4, 3) := by decide +kernel
theorem dX0_of_15 : decode cX0_of 15 = .ok (.iconst 0, 1) := by decide +kernel
theorem dX0_of_16 : decode cX0_of 16 = .ok (.ior, 1) := by decide +kernel
theorem dX0_of_17 : decode cX0_of 17 = .ok (.iload_n 2, 1) := by decide +kernel
theorem dX0_of_18 : decode cX0_of 18 = .ok (.ifCond .eq 9, 3) := by decide +kernel
theorem dX0_of_21 : decode cX0_of 21 = .ok (.sipush 512, 3) := by decide +kernel
theorem dX0_of_24 : decode cX0_of 24 = .ok (.goto 4, 3) := by decide +kernel
theorem dX0_of_27 : decode cX0_of 27 = .ok (.iconst 0, 1) := by decide +kernel
theorem dX0_of_28 : decode cX0_of 28 = .ok (.ior, 1) := by decide +kernel
theorem dX0_of_29 : decode cX0_of 29 = .ok (.iload_n 3, 1) := by decide +kernel
theorem dX0_of_30 : decode cX0_of 30 = .ok (.ifCond .eq 9, 3) := by decide +kernel
theorem dX0_of_33 : decode cX0_of 33 = .ok (.sipush 1024, 3) := by decide +kernel
theorem dX0_of_36 : decode cX0_of 36 = .ok (.goto 4, 3) := by decide +kernel
theorem dX0_of_39 : decode cX0_of 39 = .ok (.iconst 0, 1) := by decide +kernel
theorem dX0_of_40 : decode cX0_of 40 = .ok (.ior, 1) := by decide +kernel
theorem dX0_of_41 : decode cX0_of 41 = .ok (.i2l, 1) := by decide +kernel
theorem dX0_of_42 : decode cX0_of 42 = .ok (.iload 4, 2) := by decide +kernel
theorem dX0_of_44 : decode cX0_of 44 = .ok (.i2l, 1) := by decide +kernel
theorem dX0_of_45 : decode cX0_of 45 = .ok (.ldc2_w 9, 3) := by decide +kernel
theorem dX0_of_48 : decode cX0_of 48 = .ok (.land, 1) := by decide +kernel
theorem dX0_of_49 : decode cX0_of 49 = .ok (.bipush 11, 2) := by decide +kernel
theorem dX0_of_51 : decode cX0_of 51 = .ok (.lshl, 1) := by decide +kernel
theorem dX0_of_52 : decode cX0_of 52 = .ok (.lor, 1) := by decide +kernel
theorem dX0_of_53 : decode cX0_of 53 = .ok (.lreturn, 1) := by decide +kernel
theorem dX0_trait_0 : decode cX0_trait 0 = .ok (.iload_n 2, 1) := by decide +kernel
theorem dX0_trait_1 : decode cX0_trait 1 = .ok (.tableswitch 51 2 4 #[27, 35, 43], 27) := by decide +kernel
theorem dX0_trait_28 : decode cX0_trait 28 = .ok (.lload_n 0, 1) := by decide +kernel
theorem dX0_trait_29 : decode cX0_trait 29 = .ok (.bipush 8, 2) := by decide +kernel
theorem dX0_trait_31 : decode cX0_trait 31 = .ok (.lshr, 1) := by decide +kernel
theorem dX0_trait_32 : decode cX0_trait 32 = .ok (.lconst 1, 1) := by decide +kernel
theorem dX0_trait_33 : decode cX0_trait 33 = .ok (.land, 1) := by decide +kernel
theorem dX0_trait_34 : decode cX0_trait 34 = .ok (.l2i, 1) := by decide +kernel
theorem dX0_trait_35 : decode cX0_trait 35 = .ok (.ireturn, 1) := by decide +kernel
theorem dX0_trait_36 : decode cX0_trait 36 = .ok (.lload_n 0, 1) := by decide +kernel
theorem dX0_trait_37 : decode cX0_trait 37 = .ok (.bipush 9, 2) := by decide +kernel
theorem dX0_trait_39 : decode cX0_trait 39 = .ok (.lshr, 1) := by decide +kernel
theorem dX0_trait_40 : decode cX0_trait 40 = .ok (.lconst 1, 1) := by decide +kernel
theorem dX0_trait_41 : decode cX0_trait 41 = .ok (.land, 1) := by decide +kernel
theorem dX0_trait_42 : decode cX0_trait 42 = .ok (.l2i, 1) := by decide +kernel
theorem dX0_trait_43 : decode cX0_trait 43 = .ok (.ireturn, 1) := by decide +kernel
theorem dX0_trait_44 : decode cX0_trait 44 = .ok (.lload_n 0, 1) := by decide +kernel
theorem dX0_trait_45 : decode cX0_trait 45 = .ok (.bipush 10, 2) := by decide +kernel
theorem dX0_trait_47 : decode cX0_trait 47 = .ok (.lshr, 1) := by decide +kernel
theorem dX0_trait_48 : decode cX0_trait 48 = .ok (.lconst 1, 1) := by decide +kernel
theorem dX0_trait_49 : decode cX0_trait 49 = .ok (.land, 1) := by decide +kernel
theorem dX0_trait_50 : decode cX0_trait 50 = .ok (.l2i, 1) := by decide +kernel
theorem dX0_trait_51 : decode cX0_trait 51 = .ok (.ireturn, 1) := by decide +kernel
theorem dX0_trait_52 : decode cX0_trait 52 = .ok (.lload_n 0, 1) := by decide +kernel
theorem dX0_trait_53 : decode cX0_trait 53 = .ok (.bipush 11, 2) := by decide +kernel
theorem dX0_trait_55 : decode cX0_trait 55 = .ok (.lshr, 1) := by decide +kernel
theorem dX0_trait_56 : decode cX0_trait 56 = .ok (.l2i, 1) := by decide +kernel
theorem dX0_trait_57 : decode cX0_trait 57 = .ok (.ireturn, 1) := by decide +kernel
theorem dX1_of_0 : decode cX1_of 0 = .ok (.iconst 1, 1) := by decide +kernel
theorem dX1_of_1 : decode cX1_of 1 = .ok (.iload_n 0, 1) := by decide +kernel
theorem dX1_of_2 : decode cX1_of 2 = .ok (.iconst 1, 1) := by decide +kernel
theorem dX1_of_3 : decode cX1_of 3 = .ok (.ishl, 1) := by decide +kernel
theorem dX1_of_4 : decode cX1_of 4 = .ok (.ior, 1) := by decide +kernel
theorem dX1_of_5 : decode cX1_of 5 = .ok (.iload_n 1, 1) := by decide +kernel
theorem dX1_of_6 : decode cX1_of 6 = .ok (.ifCond .eq 7, 3) := by decide +kernel
theorem dX1_of_9 : decode cX1_of 9 = .ok (.iconst 4, 1) := by decide +kernel
theorem dX1_of_10 : decode cX1_of 10 = .ok (.goto 4, 3) := by decide +kernel
theorem dX1_of_13 : decode cX1_of 13 = .ok (.iconst 0, 1) := by decide +kernel
theorem dX1_of_14 : decode cX1_of 14 = .ok (.ior, 1) := by decide +kernel
theorem dX1_of_15 : decode cX1_of 15 = .ok (.iload_n 2, 1) := by decide +kernel
theorem dX1_of_16 : decode cX1_of 16 = .ok (.bipush 99, 2) := by decide +kernel
theorem dX1_of_18 : decode cX1_of 18 = .ok (.iadd, 1) := by decide +kernel
theorem dX1_of_19 : decode cX1_of 19 = .ok (.iconst 3, 1) := by decide +kernel
theorem dX1_of_20 : decode cX1_of 20 = .ok (.ishl, 1) := by decide +kernel
theorem dX1_of_21 : decode cX1_of 21 = .ok (.ior, 1) := by decide +kernel
theorem dX1_of_22 : decode cX1_of 22 = .ok (.iload_n 3, 1) := by decide +kernel
theorem dX1_of_23 : decode cX1_of 23 = .ok (.iconst 1, 1) := by decide +kernel
theorem dX1_of_24 : decode cX1_of 24 = .ok (.iadd, 1) := by decide +kernel
theorem dX1_of_25 : decode cX1_of 25 = .ok (.bipush 11, 2) := by decide +kernel
theorem dX1_of_27 : decode cX1_of 27 = .ok (.ishl, 1) := by decide +kernel
theorem dX1_of_28 : decode cX1_of 28 = .ok (.ior, 1) := by decide +kernel
theorem dX1_of_29 : decode cX1_of 29 = .ok (.iload 4, 2) := by decide +kernel
theorem dX1_of_31 : decode cX1_of 31 = .ok (.iconst 1, 1) := by decide +kernel
theorem dX1_of_32 : decode cX1_of 32 = .ok (.iadd, 1) := by decide +kernel
theorem dX1_of_33 : decode cX1_of 33 = .ok (.bipush 16, 2) := by decide +kernel
theorem dX1_of_35 : decode cX1_of 35 = .ok (.ishl, 1) := by decide +kernel
theorem dX1_of_36 : decode cX1_of 36 = .ok (.ior, 1) := by decide +kernel
theorem dX1_of_37 : decode cX1_of 37 = .ok (.ireturn, 1) := by decide +kernel
theorem dX1_withNumber_0 : decode cX1_withNumber 0 = .ok (.iload_n 0, 1) := by decide +kernel
theorem dX1_withNumber_1 : decode cX1_withNumber 1 = .ok (.sipush (-2041), 3) := by decide +kernel
theorem dX1_withNumber_4 : decode cX1_withNumber 4 = .ok (.iand, 1) := by decide +kernel
theorem dX1_withNumber_5 : decode cX1_withNumber 5 = .ok (.iload_n 1, 1) := by decide +kernel
theorem dX1_withNumber_6 : decode cX1_withNumber 6 = .ok (.bipush 99, 2) := by decide +kernel
theorem dX1_withNumber_8 : decode cX1_withNumber 8 = .ok (.iadd, 1) := by decide +kernel
theorem dX1_withNumber_9 : decode cX1_withNumber 9 = .ok (.iconst 3, 1) := by decide +kernel
theorem dX1_withNumber_10 : decode cX1_withNumber 10 = .ok (.ishl, 1) := by decide +kernel
theorem dX1_withNumber_11 : decode cX1_withNumber 11 = .ok (.ior, 1) := by decide +kernel
theorem dX1_withNumber_12 : decode cX1_withNumber 12 = .ok (.ireturn, 1) := by decide +kernel
theorem dX1_isProcedure_0 : decode cX1_isProcedure 0 = .ok (.iload_n 0, 1) := by decide +kernel
theorem dX1_isProcedure_1 : decode cX1_isProcedure 1 = .ok (.iconst 1, 1) := by decide +kernel
theorem dX1_isProcedure_2 : decode cX1_isProcedure 2 = .ok (.ishr, 1) := by decide +kernel
theorem dX1_isProcedure_3 : decode cX1_isProcedure 3 = .ok (.iconst 1, 1) := by decide +kernel
theorem dX1_isProcedure_4 : decode cX1_isProcedure 4 = .ok (.iand, 1) := by decide +kernel
theorem dX1_isProcedure_5 : decode cX1_isProcedure 5 = .ok (.iconst 1, 1) := by decide +kernel
theorem dX1_isProcedure_6 : decode cX1_isProcedure 6 = .ok (.if_icmp .ne 7, 3) := by decide +kernel
theorem dX1_isProcedure_9 : decode cX1_isProcedure 9 = .ok (.iconst 1, 1) := by decide +kernel
theorem dX1_isProcedure_10 : decode cX1_isProcedure 10 = .ok (.goto 4, 3) := by decide +kernel
theorem dX1_isProcedure_13 : decode cX1_isProcedure 13 = .ok (.iconst 0, 1) := by decide +kernel
theorem dX1_isProcedure_14 : decode cX1_isProcedure 14 = .ok (.ireturn, 1) := by decide +kernel
theorem dX1_isPublic_0 : decode cX1_isPublic 0 = .ok (.iload_n 0, 1) := by decide +kernel
theorem dX1_isPublic_1 : decode cX1_isPublic 1 = .ok (.iconst 2, 1) := by decide +kernel
theorem dX1_isPublic_2 : decode cX1_isPublic 2 = .ok (.ishr, 1) := by decide +kernel
theorem dX1_isPublic_3 : decode cX1_isPublic 3 = .ok (.iconst 1, 1) := by decide +kernel
theorem dX1_isPublic_4 : decode cX1_isPublic 4 = .ok (.iand, 1) := by decide +kernel
theorem dX1_isPublic_5 : decode cX1_isPublic 5 = .ok (.iconst 1, 1) := by decide +kernel
theorem dX1_isPublic_6 : decode cX1_isPublic 6 = .ok (.if_icmp .ne 7, 3) := by decide +kernel
theorem dX1_isPublic_9 : decode cX1_isPublic 9 = .ok (.iconst 1, 1) := by decide +kernel
theorem dX1_isPublic_10 : decode cX1_isPublic 10 = .ok (.goto 4, 3) := by decide +kernel
theorem dX1_isPublic_13 : decode cX1_isPublic 13 = .ok (.iconst 0, 1) := by decide +kernel
theorem dX1_isPublic_14 : decode cX1_isPublic 14 = .ok (.ireturn, 1) := by decide +kernel
theorem dX1_numberOf_0 : decode cX1_numberOf 0 = .ok (.iload_n 0, 1) := by decide +kernel
theorem dX1_numberOf_1 : decode cX1_numberOf 1 = .ok (.iconst 3, 1) := by decide +kernel
theorem dX1_numberOf_2 : decode cX1_numberOf 2 = .ok (.ishr, 1) := by decide +kernel
theorem dX1_numberOf_3 : decode cX1_numberOf 3 = .ok (.sipush 255, 3) := by decide +kernel
theorem dX1_numberOf_6 : decode cX1_numberOf 6 = .ok (.iand, 1) := by decide +kernel
theorem dX1_numberOf_7 : decode cX1_numberOf 7 = .ok (.bipush 99, 2) := by decide +kernel
theorem dX1_numberOf_9 : decode cX1_numberOf 9 = .ok (.isub, 1) := by decide +kernel
theorem dX1_numberOf_10 : decode cX1_numberOf 10 = .ok (.ireturn, 1) := by decide +kernel
theorem dX1_reference_0 : decode cX1_reference 0 = .ok (.iload_n 0, 1) := by decide +kernel
theorem dX1_reference_1 : decode cX1_reference 1 = .ok (.iload_n 1, 1) := by decide +kernel
theorem dX1_reference_2 : decode cX1_reference 2 = .ok (.ifCond .ne 8, 3) := by decide +kernel
theorem dX1_reference_5 : decode cX1_reference 5 = .ok (.bipush 11, 2) := by decide +kernel
theorem dX1_reference_7 : decode cX1_reference 7 = .ok (.goto 5, 3) := by decide +kernel
theorem dX1_reference_10 : decode cX1_reference 10 = .ok (.bipush 16, 2) := by decide +kernel
theorem dX1_reference_12 : decode cX1_reference 12 = .ok (.ishr, 1) := by decide +kernel
theorem dX1_reference_13 : decode cX1_reference 13 = .ok (.bipush 31, 2) := by decide +kernel
theorem dX1_reference_15 : decode cX1_reference 15 = .ok (.iand, 1) := by decide +kernel
theorem dX1_reference_16 : decode cX1_reference 16 = .ok (.iconst 1, 1) := by decide +kernel
theorem dX1_reference_17 : decode cX1_reference 17 = .ok (.isub, 1) := by decide +kernel
theorem dX1_reference_18 : decode cX1_reference 18 = .ok (.ireturn, 1) := by decide +kernel
theorem dX2_of_0 : decode cX2_of 0 = .ok (.iload_n 0, 1) := by decide +kernel
theorem dX2_of_1 : decode cX2_of 1 = .ok (.iload_n 1, 1) := by decide +kernel
theorem dX2_of_2 : decode cX2_of 2 = .ok (.iconst 1, 1) := by decide +kernel
theorem dX2_of_3 : decode cX2_of 3 = .ok (.iadd, 1) := by decide +kernel
theorem dX2_of_4 : decode cX2_of 4 = .ok (.iconst 3, 1) := by decide +kernel
theorem dX2_of_5 : decode cX2_of 5 = .ok (.ishl, 1) := by decide +kernel
theorem dX2_of_6 : decode cX2_of 6 = .ok (.ior, 1) := by decide +kernel
theorem dX2_of_7 : decode cX2_of 7 = .ok (.iload_n 2, 1) := by decide +kernel
theorem dX2_of_8 : decode cX2_of 8 = .ok (.bipush 8, 2) := by decide +kernel
theorem dX2_of_10 : decode cX2_of 10 = .ok (.ishl, 1) := by decide +kernel
theorem dX2_of_11 : decode cX2_of 11 = .ok (.ior, 1) := by decide +kernel
theorem dX2_of_12 : decode cX2_of 12 = .ok (.iload_n 3, 1) := by decide +kernel
theorem dX2_of_13 : decode cX2_of 13 = .ok (.ifCond .eq 9, 3) := by decide +kernel
theorem dX2_of_16 : decode cX2_of 16 = .ok (.sipush 4096, 3) := by decide +kernel
theorem dX2_of_19 : decode cX2_of 19 = .ok (.goto 4, 3) := by decide +kernel
theorem dX2_of_22 : decode cX2_of 22 = .ok (.iconst 0, 1) := by decide +kernel
theorem dX2_of_23 : decode cX2_of 23 = .ok (.ior, 1) := by decide +kernel
theorem dX2_of_24 : decode cX2_of 24 = .ok (.ireturn, 1) := by decide +kernel
theorem dX2_isOfAll_0 : decode cX2_isOfAll 0 = .ok (.iload_n 0, 1) := by decide +kernel
theorem dX2_isOfAll_1 : decode cX2_isOfAll 1 = .ok (.iconst 3, 1) := by decide +kernel
theorem dX2_isOfAll_2 : decode cX2_isOfAll 2 = .ok (.ishr, 1) := by decide +kernel
theorem dX2_isOfAll_3 : decode cX2_isOfAll 3 = .ok (.bipush 31, 2) := by decide +kernel
theorem dX2_isOfAll_5 : decode cX2_isOfAll 5 = .ok (.iand, 1) := by decide +kernel
theorem dX2_isOfAll_6 : decode cX2_isOfAll 6 = .ok (.ifCond .ne 7, 3) := by decide +kernel
theorem dX2_isOfAll_9 : decode cX2_isOfAll 9 = .ok (.iconst 1, 1) := by decide +kernel
theorem dX2_isOfAll_10 : decode cX2_isOfAll 10 = .ok (.goto 4, 3) := by decide +kernel
theorem dX2_isOfAll_13 : decode cX2_isOfAll 13 = .ok (.iconst 0, 1) := by decide +kernel
theorem dX2_isOfAll_14 : decode cX2_isOfAll 14 = .ok (.ireturn, 1) := by decide +kernel
theorem dX2_isAgain_0 : decode cX2_isAgain 0 = .ok (.iload_n 0, 1) := by decide +kernel
theorem dX2_isAgain_1 : decode cX2_isAgain 1 = .ok (.bipush 12, 2) := by decide +kernel
theorem dX2_isAgain_3 : decode cX2_isAgain 3 = .ok (.ishr, 1) := by decide +kernel
theorem dX2_isAgain_4 : decode cX2_isAgain 4 = .ok (.iconst 1, 1) := by decide +kernel
theorem dX2_isAgain_5 : decode cX2_isAgain 5 = .ok (.iand, 1) := by decide +kernel
theorem dX2_isAgain_6 : decode cX2_isAgain 6 = .ok (.iconst 1, 1) := by decide +kernel
theorem dX2_isAgain_7 : decode cX2_isAgain 7 = .ok (.if_icmp .ne 7, 3) := by decide +kernel
theorem dX2_isAgain_10 : decode cX2_isAgain 10 = .ok (.iconst 1, 1) := by decide +kernel
theorem dX2_isAgain_11 : decode cX2_isAgain 11 = .ok (.goto 4, 3) := by decide +kernel
theorem dX2_isAgain_14 : decode cX2_isAgain 14 = .ok (.iconst 0, 1) := by decide +kernel
theorem dX2_isAgain_15 : decode cX2_isAgain 15 = .ok (.ireturn, 1) := by decide +kernel
theorem dX2_from_0 : decode cX2_from 0 = .ok (.iload_n 0, 1) := by decide +kernel
theorem dX2_from_1 : decode cX2_from 1 = .ok (.bipush 7, 2) := by decide +kernel
theorem dX2_from_3 : decode cX2_from 3 = .ok (.iand, 1) := by decide +kernel
theorem dX2_from_4 : decode cX2_from 4 = .ok (.ireturn, 1) := by decide +kernel
theorem dX2_under_0 : decode cX2_under 0 = .ok (.iload_n 0, 1) := by decide +kernel
theorem dX2_under_1 : decode cX2_under 1 = .ok (.bipush 8, 2) := by decide +kernel
theorem dX2_under_3 : decode cX2_under 3 = .ok (.ishr, 1) := by decide +kernel
theorem dX2_under_4 : decode cX2_under 4 = .ok (.bipush 15, 2) := by decide +kernel
theorem dX2_under_6 : decode cX2_under 6 = .ok (.iand, 1) := by decide +kernel
theorem dX2_under_7 : decode cX2_under 7 = .ok (.ireturn, 1) := by decide +kernel
theorem dX2_source_0 : decode cX2_source 0 = .ok (.iload_n 0, 1) := by decide +kernel
theorem dX2_source_1 : decode cX2_source 1 = .ok (.invokestatic 9, 3) := by decide +kernel
theorem dX2_source_4 : decode cX2_source 4 = .ok (.bipush 16, 2) := by decide +kernel
theorem dX2_source_6 : decode cX2_source 6 = .ok (.imul, 1) := by decide +kernel
theorem dX2_source_7 : decode cX2_source 7 = .ok (.iload_n 0, 1) := by decide +kernel
theorem dX2_source_8 : decode cX2_source 8 = .ok (.iconst 3, 1) := by decide +kernel
theorem dX2_source_9 : decode cX2_source 9 = .ok (.ishr, 1) := by decide +kernel
theorem dX2_source_10 : decode cX2_source 10 = .ok (.bipush 31, 2) := by decide +kernel
theorem dX2_source_12 : decode cX2_source 12 = .ok (.iand, 1) := by decide +kernel
theorem dX2_source_13 : decode cX2_source 13 = .ok (.iadd, 1) := by decide +kernel
theorem dX2_source_14 : decode cX2_source 14 = .ok (.iconst 1, 1) := by decide +kernel
theorem dX2_source_15 : decode cX2_source 15 = .ok (.isub, 1) := by decide +kernel
theorem dX2_source_16 : decode cX2_source 16 = .ok (.ireturn, 1) := by decide +kernel
theorem dX3_init_0 : decode cX3_init 0 = .ok (.aload_n 0, 1) := by decide +kernel
theorem dX3_init_1 : decode cX3_init 1 = .ok (.invokespecial 3, 3) := by decide +kernel
theorem dX3_init_4 : decode cX3_init 4 = .ok (.aload_n 0, 1) := by decide +kernel
theorem dX3_init_5 : decode cX3_init 5 = .ok (.bipush 8, 2) := by decide +kernel
theorem dX3_init_7 : decode cX3_init 7 = .ok (.anewarray 9, 3) := by decide +kernel
theorem dX3_init_10 : decode cX3_init 10 = .ok (.putfield 11, 3) := by decide +kernel
theorem dX3_init_13 : decode cX3_init 13 = .ok (.aload_n 0, 1) := by decide +kernel
theorem dX3_init_14 : decode cX3_init 14 = .ok (.sipush 128, 3) := by decide +kernel
theorem dX3_init_17 : decode cX3_init 17 = .ok (.newarray .int, 2) := by decide +kernel
theorem dX3_init_19 : decode cX3_init 19 = .ok (.putfield 17, 3) := by decide +kernel
theorem dX3_init_22 : decode cX3_init 22 = .ok (.aload_n 0, 1) := by decide +kernel
theorem dX3_init_23 : decode cX3_init 23 = .ok (.sipush 256, 3) := by decide +kernel
theorem dX3_init_26 : decode cX3_init 26 = .ok (.newarray .int, 2) := by decide +kernel
theorem dX3_init_28 : decode cX3_init 28 = .ok (.putfield 21, 3) := by decide +kernel
theorem dX3_init_31 : decode cX3_init 31 = .ok (.aload_n 0, 1) := by decide +kernel
theorem dX3_init_32 : decode cX3_init 32 = .ok (.sipush 128, 3) := by decide +kernel
theorem dX3_init_35 : decode cX3_init 35 = .ok (.newarray .boolean, 2) := by decide +kernel
theorem dX3_init_37 : decode cX3_init 37 = .ok (.putfield 24, 3) := by decide +kernel
theorem dX3_init_40 : decode cX3_init 40 = .ok (.aload_n 0, 1) := by decide +kernel
theorem dX3_init_41 : decode cX3_init 41 = .ok (.sipush 128, 3) := by decide +kernel
theorem dX3_init_44 : decode cX3_init 44 = .ok (.newarray .int, 2) := by decide +kernel
theorem dX3_init_46 : decode cX3_init 46 = .ok (.putfield 28, 3) := by decide +kernel
theorem dX3_init_49 : decode cX3_init 49 = .ok (.aload_n 0, 1) := by decide +kernel
theorem dX3_init_50 : decode cX3_init 50 = .ok (.sipush 128, 3) := by decide +kernel
theorem dX3_init_53 : decode cX3_init 53 = .ok (.newarray .boolean, 2) := by decide +kernel
theorem dX3_init_55 : decode cX3_init 55 = .ok (.putfield 31, 3) := by decide +kernel
theorem dX3_init_58 : decode cX3_init 58 = .ok (.aload_n 0, 1) := by decide +kernel
theorem dX3_init_59 : decode cX3_init 59 = .ok (.aload_n 1, 1) := by decide +kernel
theorem dX3_init_60 : decode cX3_init 60 = .ok (.putfield 34, 3) := by decide +kernel
theorem dX3_init_63 : decode cX3_init 63 = .ok (.return_, 1) := by decide +kernel
theorem dX3_makeStates_0 : decode cX3_makeStates 0 = .ok (.iconst 0, 1) := by decide +kernel
theorem dX3_makeStates_1 : decode cX3_makeStates 1 = .ok (.istore_n 3, 1) := by decide +kernel
theorem dX3_makeStates_2 : decode cX3_makeStates 2 = .ok (.iload_n 3, 1) := by decide +kernel
theorem dX3_makeStates_3 : decode cX3_makeStates 3 = .ok (.bipush 8, 2) := by decide +kernel
theorem dX3_makeStates_5 : decode cX3_makeStates 5 = .ok (.if_icmp .ge 33, 3) := by decide +kernel
theorem dX3_makeStates_8 : decode cX3_makeStates 8 = .ok (.aload_n 0, 1) := by decide +kernel
theorem dX3_makeStates_9 : decode cX3_makeStates 9 = .ok (.getfield 11, 3) := by decide +kernel
theorem dX3_makeStates_12 : decode cX3_makeStates 12 = .ok (.iload_n 3, 1) := by decide +kernel
theorem dX3_makeStates_13 : decode cX3_makeStates 13 = .ok (.aload_n 1, 1) := by decide +kernel
theorem dX3_makeStates_14 : decode cX3_makeStates 14 = .ok (.getfield 38, 3) := by decide +kernel
theorem dX3_makeStates_17 : decode cX3_makeStates 17 = .ok (.iload_n 3, 1) := by decide +kernel
theorem dX3_makeStates_18 : decode cX3_makeStates 18 = .ok (.invokestatic 42, 3) := by decide +kernel
theorem dX3_makeStates_21 : decode cX3_makeStates 21 = .ok (.ifCond .eq 7, 3) := by decide +kernel
theorem dX3_makeStates_24 : decode cX3_makeStates 24 = .ok (.aload_n 1, 1) := by decide +kernel
theorem dX3_makeStates_25 : decode cX3_makeStates 25 = .ok (.goto 6, 3) := by decide +kernel
theorem dX3_makeStates_28 : decode cX3_makeStates 28 = .ok (.aload_n 2, 1) := by decide +kernel
theorem dX3_makeStates_29 : decode cX3_makeStates 29 = .ok (.iload_n 3, 1) := by decide +kernel
theorem dX3_makeStates_30 : decode cX3_makeStates 30 = .ok (.aaload, 1) := by decide +kernel
theorem dX3_makeStates_31 : decode cX3_makeStates 31 = .ok (.aastore, 1) := by decide +kernel
theorem dX3_makeStates_32 : decode cX3_makeStates 32 = .ok (.iinc 3 1, 3) := by decide +kernel
theorem dX3_makeStates_35 : decode cX3_makeStates 35 = .ok (.goto (-33), 3) := by decide +kernel
theorem dX3_makeStates_38 : decode cX3_makeStates 38 = .ok (.aload_n 0, 1) := by decide +kernel
theorem dX3_makeStates_39 : decode cX3_makeStates 39 = .ok (.aload_n 1, 1) := by decide +kernel
theorem dX3_makeStates_40 : decode cX3_makeStates 40 = .ok (.invokevirtual 48, 3) := by decide +kernel
theorem dX3_makeStates_43 : decode cX3_makeStates 43 = .ok (.aload_n 0, 1) := by decide +kernel
theorem dX3_makeStates_44 : decode cX3_makeStates 44 = .ok (.aload_n 1, 1) := by decide +kernel
theorem dX3_makeStates_45 : decode cX3_makeStates 45 = .ok (.invokevirtual 52, 3) := by decide +kernel
theorem dX3_makeStates_48 : decode cX3_makeStates 48 = .ok (.iconst 0, 1) := by decide +kernel
theorem dX3_makeStates_49 : decode cX3_makeStates 49 = .ok (.istore_n 3, 1) := by decide +kernel
theorem dX3_makeStates_50 : decode cX3_makeStates 50 = .ok (.iload_n 3, 1) := by decide +kernel
theorem dX3_makeStates_51 : decode cX3_makeStates 51 = .ok (.aload_n 0, 1) := by decide +kernel
theorem dX3_makeStates_52 : decode cX3_makeStates 52 = .ok (.getfield 55, 3) := by decide +kernel
theorem dX3_makeStates_55 : decode cX3_makeStates 55 = .ok (.if_icmp .ge 48, 3) := by decide +kernel
theorem dX3_makeStates_58 : decode cX3_makeStates 58 = .ok (.aload_n 0, 1) := by decide +kernel
theorem dX3_makeStates_59 : decode cX3_makeStates 59 = .ok (.getfield 24, 3) := by decide +kernel
theorem dX3_makeStates_62 : decode cX3_makeStates 62 = .ok (.aload_n 0, 1) := by decide +kernel
theorem dX3_makeStates_63 : decode cX3_makeStates 63 = .ok (.getfield 17, 3) := by decide +kernel
theorem dX3_makeStates_66 : decode cX3_makeStates 66 = .ok (.iload_n 3, 1) := by decide +kernel
theorem dX3_makeStates_67 : decode cX3_makeStates 67 = .ok (.iaload, 1) := by decide +kernel
theorem dX3_makeStates_68 : decode cX3_makeStates 68 = .ok (.baload, 1) := by decide +kernel
theorem dX3_makeStates_69 : decode cX3_makeStates 69 = .ok (.ifCond .eq 28, 3) := by decide +kernel
theorem dX3_makeStates_72 : decode cX3_makeStates 72 = .ok (.aload_n 0, 1) := by decide +kernel
theorem dX3_makeStates_73 : decode cX3_makeStates 73 = .ok (.aload_n 0, 1) := by decide +kernel
theorem dX3_makeStates_74 : decode cX3_makeStates 74 = .ok (.getfield 17, 3) := by decide +kernel
theorem dX3_makeStates_77 : decode cX3_makeStates 77 = .ok (.iload_n 3, 1) := by decide +kernel
theorem dX3_makeStates_78 : decode cX3_makeStates 78 = .ok (.iaload, 1) := by decide +kernel
theorem dX3_makeStates_79 : decode cX3_makeStates 79 = .ok (.invokevirtual 58, 3) := by decide +kernel
theorem dX3_makeStates_82 : decode cX3_makeStates 82 = .ok (.ifCond .eq 15, 3) := by decide +kernel
theorem dX3_makeStates_85 : decode cX3_makeStates 85 = .ok (.aload_n 1, 1) := by decide +kernel
theorem dX3_makeStates_86 : decode cX3_makeStates 86 = .ok (.getfield 62, 3) := by decide +kernel
theorem dX3_makeStates_89 : decode cX3_makeStates 89 = .ok (.aload_n 0, 1) := by decide +kernel
theorem dX3_makeStates_90 : decode cX3_makeStates 90 = .ok (.getfield 17, 3) := by decide +kernel
theorem dX3_makeStates_93 : decode cX3_makeStates 93 = .ok (.iload_n 3, 1) := by decide +kernel
theorem dX3_makeStates_94 : decode cX3_makeStates 94 = .ok (.iaload, 1) := by decide +kernel
theorem dX3_makeStates_95 : decode cX3_makeStates 95 = .ok (.iconst 4, 1) := by decide +kernel
theorem dX3_makeStates_96 : decode cX3_makeStates 96 = .ok (.iastore, 1) := by decide +kernel
theorem dX3_makeStates_97 : decode cX3_makeStates 97 = .ok (.iinc 3 1, 3) := by decide +kernel
theorem dX3_makeStates_100 : decode cX3_makeStates 100 = .ok (.goto (-50), 3) := by decide +kernel
theorem dX3_makeStates_103 : decode cX3_makeStates 103 = .ok (.aload_n 0, 1) := by decide +kernel
theorem dX3_makeStates_104 : decode cX3_makeStates 104 = .ok (.aload_n 1, 1) := by decide +kernel
theorem dX3_makeStates_105 : decode cX3_makeStates 105 = .ok (.invokevirtual 65, 3) := by decide +kernel
theorem dX3_makeStates_108 : decode cX3_makeStates 108 = .ok (.aload_n 0, 1) := by decide +kernel
theorem dX3_makeStates_109 : decode cX3_makeStates 109 = .ok (.aload_n 1, 1) := by decide +kernel
theorem dX3_makeStates_110 : decode cX3_makeStates 110 = .ok (.invokevirtual 68, 3) := by decide +kernel
theorem dX3_makeStates_113 : decode cX3_makeStates 113 = .ok (.aload_n 0, 1) := by decide +kernel
theorem dX3_makeStates_114 : decode cX3_makeStates 114 = .ok (.aload_n 1, 1) := by decide +kernel
theorem dX3_makeStates_115 : decode cX3_makeStates 115 = .ok (.invokevirtual 71, 3) := by decide +kernel
theorem dX3_makeStates_118 : decode cX3_makeStates 118 = .ok (.aload_n 0, 1) := by decide +kernel
theorem dX3_makeStates_119 : decode cX3_makeStates 119 = .ok (.aload_n 1, 1) := by decide +kernel
theorem dX3_makeStates_120 : decode cX3_makeStates 120 = .ok (.invokevirtual 74, 3) := by decide +kernel
theorem dX3_makeStates_123 : decode cX3_makeStates 123 = .ok (.return_, 1) := by decide +kernel
theorem dX3_findMembers_0 : decode cX3_findMembers 0 = .ok (.aload_n 0, 1) := by decide +kernel
theorem dX3_findMembers_1 : decode cX3_findMembers 1 = .ok (.iconst 0, 1) := by decide +kernel
theorem dX3_findMembers_2 : decode cX3_findMembers 2 = .ok (.putfield 55, 3) := by decide +kernel
theorem dX3_findMembers_5 : decode cX3_findMembers 5 = .ok (.iconst 0, 1) := by decide +kernel
theorem dX3_findMembers_6 : decode cX3_findMembers 6 = .ok (.istore_n 2, 1) := by decide +kernel
theorem dX3_findMembers_7 : decode cX3_findMembers 7 = .ok (.iload_n 2, 1) := by decide +kernel
theorem dX3_findMembers_8 : decode cX3_findMembers 8 = .ok (.sipush 128, 3) := by decide +kernel
theorem dX3_findMembers_11 : decode cX3_findMembers 11 = .ok (.if_icmp .ge 112, 3) := by decide +kernel
theorem dX3_findMembers_14 : decode cX3_findMembers 14 = .ok (.aload_n 1, 1) := by decide +kernel
theorem dX3_findMembers_15 : decode cX3_findMembers 15 = .ok (.getfield 38, 3) := by decide +kernel
theorem dX3_findMembers_18 : decode cX3_findMembers 18 = .ok (.iload_n 2, 1) := by decide +kernel
theorem dX3_findMembers_19 : decode cX3_findMembers 19 = .ok (.bipush 16, 2) := by decide +kernel
theorem dX3_findMembers_21 : decode cX3_findMembers 21 = .ok (.idiv, 1) := by decide +kernel
theorem dX3_findMembers_22 : decode cX3_findMembers 22 = .ok (.invokestatic 42, 3) := by decide +kernel
theorem dX3_findMembers_25 : decode cX3_findMembers 25 = .ok (.ifCond .eq 92, 3) := by decide +kernel
theorem dX3_findMembers_28 : decode cX3_findMembers 28 = .ok (.aload_n 1, 1) := by decide +kernel
theorem dX3_findMembers_29 : decode cX3_findMembers 29 = .ok (.getfield 77, 3) := by decide +kernel
theorem dX3_findMembers_32 : decode cX3_findMembers 32 = .ok (.iload_n 2, 1) := by decide +kernel
theorem dX3_findMembers_33 : decode cX3_findMembers 33 = .ok (.invokevirtual 81, 3) := by decide +kernel
theorem dX3_findMembers_36 : decode cX3_findMembers 36 = .ok (.ifCond .eq 81, 3) := by decide +kernel
theorem dX3_findMembers_39 : decode cX3_findMembers 39 = .ok (.aload_n 0, 1) := by decide +kernel
theorem dX3_findMembers_40 : decode cX3_findMembers 40 = .ok (.getfield 17, 3) := by decide +kernel
theorem dX3_findMembers_43 : decode cX3_findMembers 43 = .ok (.aload_n 0, 1) := by decide +kernel
theorem dX3_findMembers_44 : decode cX3_findMembers 44 = .ok (.getfield 55, 3) := by decide +kernel
theorem dX3_findMembers_47 : decode cX3_findMembers 47 = .ok (.iload_n 2, 1) := by decide +kernel
theorem dX3_findMembers_48 : decode cX3_findMembers 48 = .ok (.iastore, 1) := by decide +kernel
theorem dX3_findMembers_49 : decode cX3_findMembers 49 = .ok (.aload_n 0, 1) := by decide +kernel
theorem dX3_findMembers_50 : decode cX3_findMembers 50 = .ok (.dup, 1) := by decide +kernel
theorem dX3_findMembers_51 : decode cX3_findMembers 51 = .ok (.getfield 55, 3) := by decide +kernel
theorem dX3_findMembers_54 : decode cX3_findMembers 54 = .ok (.iconst 1, 1) := by decide +kernel
theorem dX3_findMembers_55 : decode cX3_findMembers 55 = .ok (.iadd, 1) := by decide +kernel
theorem dX3_findMembers_56 : decode cX3_findMembers 56 = .ok (.putfield 55, 3) := by decide +kernel
theorem dX3_findMembers_59 : decode cX3_findMembers 59 = .ok (.aload_n 1, 1) := by decide +kernel
theorem dX3_findMembers_60 : decode cX3_findMembers 60 = .ok (.getfield 77, 3) := by decide +kernel
theorem dX3_findMembers_63 : decode cX3_findMembers 63 = .ok (.getfield 86, 3) := by decide +kernel
theorem dX3_findMembers_66 : decode cX3_findMembers 66 = .ok (.iload_n 2, 1) := by decide +kernel
theorem dX3_findMembers_67 : decode cX3_findMembers 67 = .ok (.iaload, 1) := by decide +kernel
theorem dX3_findMembers_68 : decode cX3_findMembers 68 = .ok (.istore_n 3, 1) := by decide +kernel
theorem dX3_findMembers_69 : decode cX3_findMembers 69 = .ok (.aload_n 1, 1) := by decide +kernel
theorem dX3_findMembers_70 : decode cX3_findMembers 70 = .ok (.getfield 89, 3) := by decide +kernel
theorem dX3_findMembers_73 : decode cX3_findMembers 73 = .ok (.iload_n 2, 1) := by decide +kernel
theorem dX3_findMembers_74 : decode cX3_findMembers 74 = .ok (.iload_n 3, 1) := by decide +kernel
theorem dX3_findMembers_75 : decode cX3_findMembers 75 = .ok (.invokestatic 92, 3) := by decide +kernel
theorem dX3_findMembers_78 : decode cX3_findMembers 78 = .ok (.bastore, 1) := by decide +kernel
theorem dX3_findMembers_79 : decode cX3_findMembers 79 = .ok (.aload_n 0, 1) := by decide +kernel
theorem dX3_findMembers_80 : decode cX3_findMembers 80 = .ok (.getfield 21, 3) := by decide +kernel
theorem dX3_findMembers_83 : decode cX3_findMembers 83 = .ok (.iconst 2, 1) := by decide +kernel
theorem dX3_findMembers_84 : decode cX3_findMembers 84 = .ok (.iload_n 2, 1) := by decide +kernel
theorem dX3_findMembers_85 : decode cX3_findMembers 85 = .ok (.imul, 1) := by decide +kernel
theorem dX3_findMembers_86 : decode cX3_findMembers 86 = .ok (.aload_n 0, 1) := by decide +kernel
theorem dX3_findMembers_87 : decode cX3_findMembers 87 = .ok (.iload_n 2, 1) := by decide +kernel
theorem dX3_findMembers_88 : decode cX3_findMembers 88 = .ok (.iload_n 3, 1) := by decide +kernel
theorem dX3_findMembers_89 : decode cX3_findMembers 89 = .ok (.iconst 0, 1) := by decide +kernel
theorem dX3_findMembers_90 : decode cX3_findMembers 90 = .ok (.invokestatic 96, 3) := by decide +kernel
theorem dX3_findMembers_93 : decode cX3_findMembers 93 = .ok (.invokevirtual 100, 3) := by decide +kernel
theorem dX3_findMembers_96 : decode cX3_findMembers 96 = .ok (.iastore, 1) := by decide +kernel
theorem dX3_findMembers_97 : decode cX3_findMembers 97 = .ok (.aload_n 0, 1) := by decide +kernel
theorem dX3_findMembers_98 : decode cX3_findMembers 98 = .ok (.getfield 21, 3) := by decide +kernel
theorem dX3_findMembers_101 : decode cX3_findMembers 101 = .ok (.iconst 2, 1) := by decide +kernel
theorem dX3_findMembers_102 : decode cX3_findMembers 102 = .ok (.iload_n 2, 1) := by decide +kernel
theorem dX3_findMembers_103 : decode cX3_findMembers 103 = .ok (.imul, 1) := by decide +kernel
theorem dX3_findMembers_104 : decode cX3_findMembers 104 = .ok (.iconst 1, 1) := by decide +kernel
theorem dX3_findMembers_105 : decode cX3_findMembers 105 = .ok (.iadd, 1) := by decide +kernel
theorem dX3_findMembers_106 : decode cX3_findMembers 106 = .ok (.aload_n 0, 1) := by decide +kernel
theorem dX3_findMembers_107 : decode cX3_findMembers 107 = .ok (.iload_n 2, 1) := by decide +kernel
theorem dX3_findMembers_108 : decode cX3_findMembers 108 = .ok (.iload_n 3, 1) := by decide +kernel
theorem dX3_findMembers_109 : decode cX3_findMembers 109 = .ok (.iconst 1, 1) := by decide +kernel
theorem dX3_findMembers_110 : decode cX3_findMembers 110 = .ok (.invokestatic 96, 3) := by decide +kernel
theorem dX3_findMembers_113 : decode cX3_findMembers 113 = .ok (.invokevirtual 100, 3) := by decide +kernel
theorem dX3_findMembers_116 : decode cX3_findMembers 116 = .ok (.iastore, 1) := by decide +kernel
theorem dX3_findMembers_117 : decode cX3_findMembers 117 = .ok (.iinc 2 1, 3) := by decide +kernel
theorem dX3_findMembers_120 : decode cX3_findMembers 120 = .ok (.goto (-113), 3) := by decide +kernel
theorem dX3_findMembers_123 : decode cX3_findMembers 123 = .ok (.return_, 1) := by decide +kernel
theorem dX3_targetOf_0 : decode cX3_targetOf 0 = .ok (.iload_n 2, 1) := by decide +kernel
theorem dX3_targetOf_1 : decode cX3_targetOf 1 = .ok (.iconst (-1), 1) := by decide +kernel
theorem dX3_targetOf_2 : decode cX3_targetOf 2 = .ok (.if_icmp .ne 8, 3) := by decide +kernel
theorem dX3_targetOf_5 : decode cX3_targetOf 5 = .ok (.bipush (-3), 2) := by decide +kernel
theorem dX3_targetOf_7 : decode cX3_targetOf 7 = .ok (.goto 20, 3) := by decide +kernel
theorem dX3_targetOf_10 : decode cX3_targetOf 10 = .ok (.aload_n 0, 1) := by decide +kernel
theorem dX3_targetOf_11 : decode cX3_targetOf 11 = .ok (.getfield 34, 3) := by decide +kernel
theorem dX3_targetOf_14 : decode cX3_targetOf 14 = .ok (.getfield 103, 3) := by decide +kernel
theorem dX3_targetOf_17 : decode cX3_targetOf 17 = .ok (.iload_n 1, 1) := by decide +kernel
theorem dX3_targetOf_18 : decode cX3_targetOf 18 = .ok (.bipush 16, 2) := by decide +kernel
theorem dX3_targetOf_20 : decode cX3_targetOf 20 = .ok (.idiv, 1) := by decide +kernel
theorem dX3_targetOf_21 : decode cX3_targetOf 21 = .ok (.bipush 16, 2) := by decide +kernel
theorem dX3_targetOf_23 : decode cX3_targetOf 23 = .ok (.imul, 1) := by decide +kernel
theorem dX3_targetOf_24 : decode cX3_targetOf 24 = .ok (.iload_n 2, 1) := by decide +kernel
theorem dX3_targetOf_25 : decode cX3_targetOf 25 = .ok (.iadd, 1) := by decide +kernel
theorem dX3_targetOf_26 : decode cX3_targetOf 26 = .ok (.iaload, 1) := by decide +kernel
theorem dX3_targetOf_27 : decode cX3_targetOf 27 = .ok (.ireturn, 1) := by decide +kernel
theorem dX3_findDirectFaults_0 : decode cX3_findDirectFaults 0 = .ok (.aload_n 0, 1) := by decide +kernel
theorem dX3_findDirectFaults_1 : decode cX3_findDirectFaults 1 = .ok (.getfield 24, 3) := by decide +kernel
theorem dX3_findDirectFaults_4 : decode cX3_findDirectFaults 4 = .ok (.invokestatic 108, 3) := by decide +kernel
theorem dX3_findDirectFaults_7 : decode cX3_findDirectFaults 7 = .ok (.iconst 0, 1) := by decide +kernel
theorem dX3_findDirectFaults_8 : decode cX3_findDirectFaults 8 = .ok (.istore_n 2, 1) := by decide +kernel
theorem dX3_findDirectFaults_9 : decode cX3_findDirectFaults 9 = .ok (.iload_n 2, 1) := by decide +kernel
theorem dX3_findDirectFaults_10 : decode cX3_findDirectFaults 10 = .ok (.aload_n 0, 1) := by decide +kernel
theorem dX3_findDirectFaults_11 : decode cX3_findDirectFaults 11 = .ok (.getfield 55, 3) := by decide +kernel
theorem dX3_findDirectFaults_14 : decode cX3_findDirectFaults 14 = .ok (.if_icmp .ge 105, 3) := by decide +kernel
theorem dX3_findDirectFaults_17 : decode cX3_findDirectFaults 17 = .ok (.aload_n 0, 1) := by decide +kernel
theorem dX3_findDirectFaults_18 : decode cX3_findDirectFaults 18 = .ok (.getfield 17, 3) := by decide +kernel
theorem dX3_findDirectFaults_21 : decode cX3_findDirectFaults 21 = .ok (.iload_n 2, 1) := by decide +kernel
theorem dX3_findDirectFaults_22 : decode cX3_findDirectFaults 22 = .ok (.iaload, 1) := by decide +kernel
theorem dX3_findDirectFaults_23 : decode cX3_findDirectFaults 23 = .ok (.istore_n 3, 1) := by decide +kernel
theorem dX3_findDirectFaults_24 : decode cX3_findDirectFaults 24 = .ok (.aload_n 1, 1) := by decide +kernel
theorem dX3_findDirectFaults_25 : decode cX3_findDirectFaults 25 = .ok (.getfield 89, 3) := by decide +kernel
theorem dX3_findDirectFaults_28 : decode cX3_findDirectFaults 28 = .ok (.iload_n 3, 1) := by decide +kernel
theorem dX3_findDirectFaults_29 : decode cX3_findDirectFaults 29 = .ok (.baload, 1) := by decide +kernel
theorem dX3_findDirectFaults_30 : decode cX3_findDirectFaults 30 = .ok (.ifCond .ne 7, 3) := by decide +kernel
theorem dX3_findDirectFaults_33 : decode cX3_findDirectFaults 33 = .ok (.iconst 1, 1) := by decide +kernel
theorem dX3_findDirectFaults_34 : decode cX3_findDirectFaults 34 = .ok (.goto 4, 3) := by decide +kernel
theorem dX3_findDirectFaults_37 : decode cX3_findDirectFaults 37 = .ok (.iconst 0, 1) := by decide +kernel
theorem dX3_findDirectFaults_38 : decode cX3_findDirectFaults 38 = .ok (.istore 4, 2) := by decide +kernel
theorem dX3_findDirectFaults_40 : decode cX3_findDirectFaults 40 = .ok (.aload_n 0, 1) := by decide +kernel
theorem dX3_findDirectFaults_41 : decode cX3_findDirectFaults 41 = .ok (.aload_n 0, 1) := by decide +kernel
theorem dX3_findDirectFaults_42 : decode cX3_findDirectFaults 42 = .ok (.getfield 21, 3) := by decide +kernel
theorem dX3_findDirectFaults_45 : decode cX3_findDirectFaults 45 = .ok (.iconst 2, 1) := by decide +kernel
theorem dX3_findDirectFaults_46 : decode cX3_findDirectFaults 46 = .ok (.iload_n 3, 1) := by decide +kernel
theorem dX3_findDirectFaults_47 : decode cX3_findDirectFaults 47 = .ok (.imul, 1) := by decide +kernel
theorem dX3_findDirectFaults_48 : decode cX3_findDirectFaults 48 = .ok (.iaload, 1) := by decide +kernel
theorem dX3_findDirectFaults_49 : decode cX3_findDirectFaults 49 = .ok (.iload 4, 2) := by decide +kernel
theorem dX3_findDirectFaults_51 : decode cX3_findDirectFaults 51 = .ok (.invokevirtual 112, 3) := by decide +kernel
theorem dX3_findDirectFaults_54 : decode cX3_findDirectFaults 54 = .ok (.istore 5, 2) := by decide +kernel
theorem dX3_findDirectFaults_56 : decode cX3_findDirectFaults 56 = .ok (.iload 5, 2) := by decide +kernel
theorem dX3_findDirectFaults_58 : decode cX3_findDirectFaults 58 = .ok (.ifCond .eq 8, 3) := by decide +kernel
theorem dX3_findDirectFaults_61 : decode cX3_findDirectFaults 61 = .ok (.iload 5, 2) := by decide +kernel
theorem dX3_findDirectFaults_63 : decode cX3_findDirectFaults 63 = .ok (.goto 19, 3) := by decide +kernel
theorem dX3_findDirectFaults_66 : decode cX3_findDirectFaults 66 = .ok (.aload_n 0, 1) := by decide +kernel
theorem dX3_findDirectFaults_67 : decode cX3_findDirectFaults 67 = .ok (.aload_n 0, 1) := by decide +kernel
theorem dX3_findDirectFaults_68 : decode cX3_findDirectFaults 68 = .ok (.getfield 21, 3) := by decide +kernel
theorem dX3_findDirectFaults_71 : decode cX3_findDirectFaults 71 = .ok (.iconst 2, 1) := by decide +kernel
theorem dX3_findDirectFaults_72 : decode cX3_findDirectFaults 72 = .ok (.iload_n 3, 1) := by decide +kernel
theorem dX3_findDirectFaults_73 : decode cX3_findDirectFaults 73 = .ok (.imul, 1) := by decide +kernel
theorem dX3_findDirectFaults_74 : decode cX3_findDirectFaults 74 = .ok (.iconst 1, 1) := by decide +kernel
theorem dX3_findDirectFaults_75 : decode cX3_findDirectFaults 75 = .ok (.iadd, 1) := by decide +kernel
theorem dX3_findDirectFaults_76 : decode cX3_findDirectFaults 76 = .ok (.iaload, 1) := by decide +kernel
theorem dX3_findDirectFaults_77 : decode cX3_findDirectFaults 77 = .ok (.iload 4, 2) := by decide +kernel
theorem dX3_findDirectFaults_79 : decode cX3_findDirectFaults 79 = .ok (.invokevirtual 112, 3) := by decide +kernel
theorem dX3_findDirectFaults_82 : decode cX3_findDirectFaults 82 = .ok (.istore 6, 2) := by decide +kernel
theorem dX3_findDirectFaults_84 : decode cX3_findDirectFaults 84 = .ok (.aload_n 1, 1) := by decide +kernel
theorem dX3_findDirectFaults_85 : decode cX3_findDirectFaults 85 = .ok (.getfield 62, 3) := by decide +kernel
theorem dX3_findDirectFaults_88 : decode cX3_findDirectFaults 88 = .ok (.iload_n 3, 1) := by decide +kernel
theorem dX3_findDirectFaults_89 : decode cX3_findDirectFaults 89 = .ok (.iload 6, 2) := by decide +kernel
theorem dX3_findDirectFaults_91 : decode cX3_findDirectFaults 91 = .ok (.iastore, 1) := by decide +kernel
theorem dX3_findDirectFaults_92 : decode cX3_findDirectFaults 92 = .ok (.aload_n 0, 1) := by decide +kernel
theorem dX3_findDirectFaults_93 : decode cX3_findDirectFaults 93 = .ok (.getfield 24, 3) := by decide +kernel
theorem dX3_findDirectFaults_96 : decode cX3_findDirectFaults 96 = .ok (.iload_n 3, 1) := by decide +kernel
theorem dX3_findDirectFaults_97 : decode cX3_findDirectFaults 97 = .ok (.iload 4, 2) := by decide +kernel
theorem dX3_findDirectFaults_99 : decode cX3_findDirectFaults 99 = .ok (.ifCond .eq 12, 3) := by decide +kernel
theorem dX3_findDirectFaults_102 : decode cX3_findDirectFaults 102 = .ok (.iload 6, 2) := by decide +kernel
theorem dX3_findDirectFaults_104 : decode cX3_findDirectFaults 104 = .ok (.ifCond .ne 7, 3) := by decide +kernel
theorem dX3_findDirectFaults_107 : decode cX3_findDirectFaults 107 = .ok (.iconst 1, 1) := by decide +kernel
theorem dX3_findDirectFaults_108 : decode cX3_findDirectFaults 108 = .ok (.goto 4, 3) := by decide +kernel
theorem dX3_findDirectFaults_111 : decode cX3_findDirectFaults 111 = .ok (.iconst 0, 1) := by decide +kernel
theorem dX3_findDirectFaults_112 : decode cX3_findDirectFaults 112 = .ok (.bastore, 1) := by decide +kernel
theorem dX3_findDirectFaults_113 : decode cX3_findDirectFaults 113 = .ok (.iinc 2 1, 3) := by decide +kernel
theorem dX3_findDirectFaults_116 : decode cX3_findDirectFaults 116 = .ok (.goto (-107), 3) := by decide +kernel
theorem dX3_findDirectFaults_119 : decode cX3_findDirectFaults 119 = .ok (.return_, 1) := by decide +kernel
theorem dX3_directFault_0 : decode cX3_directFault 0 = .ok (.iload_n 1, 1) := by decide +kernel
theorem dX3_directFault_1 : decode cX3_directFault 1 = .ok (.iconst (-1), 1) := by decide +kernel
theorem dX3_directFault_2 : decode cX3_directFault 2 = .ok (.if_icmp .ne 5, 3) := by decide +kernel
theorem dX3_directFault_5 : decode cX3_directFault 5 = .ok (.iconst 1, 1) := by decide +kernel
theorem dX3_directFault_6 : decode cX3_directFault 6 = .ok (.ireturn, 1) := by decide +kernel
theorem dX3_directFault_7 : decode cX3_directFault 7 = .ok (.iload_n 1, 1) := by decide +kernel
theorem dX3_directFault_8 : decode cX3_directFault 8 = .ok (.bipush (-2), 2) := by decide +kernel
theorem dX3_directFault_10 : decode cX3_directFault 10 = .ok (.if_icmp .ne 5, 3) := by decide +kernel
theorem dX3_directFault_13 : decode cX3_directFault 13 = .ok (.iconst 2, 1) := by decide +kernel
theorem dX3_directFault_14 : decode cX3_directFault 14 = .ok (.ireturn, 1) := by decide +kernel
theorem dX3_directFault_15 : decode cX3_directFault 15 = .ok (.iload_n 2, 1) := by decide +kernel
theorem dX3_directFault_16 : decode cX3_directFault 16 = .ok (.ifCond .eq 28, 3) := by decide +kernel
theorem dX3_directFault_19 : decode cX3_directFault 19 = .ok (.iload_n 1, 1) := by decide +kernel
theorem dX3_directFault_20 : decode cX3_directFault 20 = .ok (.ifCond .lt 24, 3) := by decide +kernel
theorem dX3_directFault_23 : decode cX3_directFault 23 = .ok (.aload_n 0, 1) := by decide +kernel
theorem dX3_directFault_24 : decode cX3_directFault 24 = .ok (.getfield 11, 3) := by decide +kernel
theorem dX3_directFault_27 : decode cX3_directFault 27 = .ok (.iload_n 1, 1) := by decide +kernel
theorem dX3_directFault_28 : decode cX3_directFault 28 = .ok (.bipush 16, 2) := by decide +kernel
theorem dX3_directFault_30 : decode cX3_directFault 30 = .ok (.idiv, 1) := by decide +kernel
theorem dX3_directFault_31 : decode cX3_directFault 31 = .ok (.aaload, 1) := by decide +kernel
theorem dX3_directFault_32 : decode cX3_directFault 32 = .ok (.getfield 89, 3) := by decide +kernel
theorem dX3_directFault_35 : decode cX3_directFault 35 = .ok (.iload_n 1, 1) := by decide +kernel
theorem dX3_directFault_36 : decode cX3_directFault 36 = .ok (.baload, 1) := by decide +kernel
theorem dX3_directFault_37 : decode cX3_directFault 37 = .ok (.ifCond .eq 7, 3) := by decide +kernel
theorem dX3_directFault_40 : decode cX3_directFault 40 = .ok (.iconst 3, 1) := by decide +kernel
theorem dX3_directFault_41 : decode cX3_directFault 41 = .ok (.goto 4, 3) := by decide +kernel
theorem dX3_directFault_44 : decode cX3_directFault 44 = .ok (.iconst 0, 1) := by decide +kernel
theorem dX3_directFault_45 : decode cX3_directFault 45 = .ok (.ireturn, 1) := by decide +kernel
theorem dX3_comesBack_0 : decode cX3_comesBack 0 = .ok (.aload_n 0, 1) := by decide +kernel
theorem dX3_comesBack_1 : decode cX3_comesBack 1 = .ok (.getfield 31, 3) := by decide +kernel
theorem dX3_comesBack_4 : decode cX3_comesBack 4 = .ok (.invokestatic 108, 3) := by decide +kernel
theorem dX3_comesBack_7 : decode cX3_comesBack 7 = .ok (.aload_n 0, 1) := by decide +kernel
theorem dX3_comesBack_8 : decode cX3_comesBack 8 = .ok (.getfield 28, 3) := by decide +kernel
theorem dX3_comesBack_11 : decode cX3_comesBack 11 = .ok (.iconst 0, 1) := by decide +kernel
theorem dX3_comesBack_12 : decode cX3_comesBack 12 = .ok (.iload_n 1, 1) := by decide +kernel
theorem dX3_comesBack_13 : decode cX3_comesBack 13 = .ok (.iastore, 1) := by decide +kernel
theorem dX3_comesBack_14 : decode cX3_comesBack 14 = .ok (.iconst 1, 1) := by decide +kernel
theorem dX3_comesBack_15 : decode cX3_comesBack 15 = .ok (.istore_n 2, 1) := by decide +kernel
theorem dX3_comesBack_16 : decode cX3_comesBack 16 = .ok (.iconst 0, 1) := by decide +kernel
theorem dX3_comesBack_17 : decode cX3_comesBack 17 = .ok (.istore_n 3, 1) := by decide +kernel
theorem dX3_comesBack_18 : decode cX3_comesBack 18 = .ok (.iload_n 3, 1) := by decide +kernel
theorem dX3_comesBack_19 : decode cX3_comesBack 19 = .ok (.iload_n 2, 1) := by decide +kernel
theorem dX3_comesBack_20 : decode cX3_comesBack 20 = .ok (.if_icmp .ge 108, 3) := by decide +kernel
theorem dX3_comesBack_23 : decode cX3_comesBack 23 = .ok (.iload_n 3, 1) := by decide +kernel
theorem dX3_comesBack_24 : decode cX3_comesBack 24 = .ok (.sipush 128, 3) := by decide +kernel
theorem dX3_comesBack_27 : decode cX3_comesBack 27 = .ok (.if_icmp .ge 101, 3) := by decide +kernel
theorem dX3_comesBack_30 : decode cX3_comesBack 30 = .ok (.iconst 0, 1) := by decide +kernel
theorem dX3_comesBack_31 : decode cX3_comesBack 31 = .ok (.istore 4, 2) := by decide +kernel
theorem dX3_comesBack_33 : decode cX3_comesBack 33 = .ok (.iload 4, 2) := by decide +kernel
theorem dX3_comesBack_35 : decode cX3_comesBack 35 = .ok (.iconst 2, 1) := by decide +kernel
theorem dX3_comesBack_36 : decode cX3_comesBack 36 = .ok (.if_icmp .ge 86, 3) := by decide +kernel
theorem dX3_comesBack_39 : decode cX3_comesBack 39 = .ok (.aload_n 0, 1) := by decide +kernel
theorem dX3_comesBack_40 : decode cX3_comesBack 40 = .ok (.getfield 21, 3) := by decide +kernel
theorem dX3_comesBack_43 : decode cX3_comesBack 43 = .ok (.iconst 2, 1) := by decide +kernel
theorem dX3_comesBack_44 : decode cX3_comesBack 44 = .ok (.aload_n 0, 1) := by decide +kernel
theorem dX3_comesBack_45 : decode cX3_comesBack 45 = .ok (.getfield 28, 3) := by decide +kernel
theorem dX3_comesBack_48 : decode cX3_comesBack 48 = .ok (.iload_n 3, 1) := by decide +kernel
theorem dX3_comesBack_49 : decode cX3_comesBack 49 = .ok (.iaload, 1) := by decide +kernel
theorem dX3_comesBack_50 : decode cX3_comesBack 50 = .ok (.imul, 1) := by decide +kernel
theorem dX3_comesBack_51 : decode cX3_comesBack 51 = .ok (.iload 4, 2) := by decide +kernel
theorem dX3_comesBack_53 : decode cX3_comesBack 53 = .ok (.iadd, 1) := by decide +kernel
theorem dX3_comesBack_54 : decode cX3_comesBack 54 = .ok (.iaload, 1) := by decide +kernel
theorem dX3_comesBack_55 : decode cX3_comesBack 55 = .ok (.istore 5, 2) := by decide +kernel
theorem dX3_comesBack_57 : decode cX3_comesBack 57 = .ok (.iload 5, 2) := by decide +kernel
theorem dX3_comesBack_59 : decode cX3_comesBack 59 = .ok (.iload_n 1, 1) := by decide +kernel
theorem dX3_comesBack_60 : decode cX3_comesBack 60 = .ok (.if_icmp .ne 5, 3) := by decide +kernel
theorem dX3_comesBack_63 : decode cX3_comesBack 63 = .ok (.iconst 1, 1) := by decide +kernel
theorem dX3_comesBack_64 : decode cX3_comesBack 64 = .ok (.ireturn, 1) := by decide +kernel
theorem dX3_comesBack_65 : decode cX3_comesBack 65 = .ok (.iload 5, 2) := by decide +kernel
theorem dX3_comesBack_67 : decode cX3_comesBack 67 = .ok (.ifCond .lt 49, 3) := by decide +kernel
theorem dX3_comesBack_70 : decode cX3_comesBack 70 = .ok (.aload_n 0, 1) := by decide +kernel
theorem dX3_comesBack_71 : decode cX3_comesBack 71 = .ok (.getfield 24, 3) := by decide +kernel
theorem dX3_comesBack_74 : decode cX3_comesBack 74 = .ok (.iload 5, 2) := by decide +kernel
theorem dX3_comesBack_76 : decode cX3_comesBack 76 = .ok (.baload, 1) := by decide +kernel
theorem dX3_comesBack_77 : decode cX3_comesBack 77 = .ok (.ifCond .eq 39, 3) := by decide +kernel
theorem dX3_comesBack_80 : decode cX3_comesBack 80 = .ok (.aload_n 0, 1) := by decide +kernel
theorem dX3_comesBack_81 : decode cX3_comesBack 81 = .ok (.getfield 31, 3) := by decide +kernel
theorem dX3_comesBack_84 : decode cX3_comesBack 84 = .ok (.iload 5, 2) := by decide +kernel
theorem dX3_comesBack_86 : decode cX3_comesBack 86 = .ok (.baload, 1) := by decide +kernel
theorem dX3_comesBack_87 : decode cX3_comesBack 87 = .ok (.ifCond .ne 29, 3) := by decide +kernel
theorem dX3_comesBack_90 : decode cX3_comesBack 90 = .ok (.iload_n 2, 1) := by decide +kernel
theorem dX3_comesBack_91 : decode cX3_comesBack 91 = .ok (.sipush 128, 3) := by decide +kernel
theorem dX3_comesBack_94 : decode cX3_comesBack 94 = .ok (.if_icmp .ge 22, 3) := by decide +kernel
theorem dX3_comesBack_97 : decode cX3_comesBack 97 = .ok (.aload_n 0, 1) := by decide +kernel
theorem dX3_comesBack_98 : decode cX3_comesBack 98 = .ok (.getfield 31, 3) := by decide +kernel
theorem dX3_comesBack_101 : decode cX3_comesBack 101 = .ok (.iload 5, 2) := by decide +kernel
theorem dX3_comesBack_103 : decode cX3_comesBack 103 = .ok (.iconst 1, 1) := by decide +kernel
theorem dX3_comesBack_104 : decode cX3_comesBack 104 = .ok (.bastore, 1) := by decide +kernel
theorem dX3_comesBack_105 : decode cX3_comesBack 105 = .ok (.aload_n 0, 1) := by decide +kernel
theorem dX3_comesBack_106 : decode cX3_comesBack 106 = .ok (.getfield 28, 3) := by decide +kernel
theorem dX3_comesBack_109 : decode cX3_comesBack 109 = .ok (.iload_n 2, 1) := by decide +kernel
theorem dX3_comesBack_110 : decode cX3_comesBack 110 = .ok (.iload 5, 2) := by decide +kernel
theorem dX3_comesBack_112 : decode cX3_comesBack 112 = .ok (.iastore, 1) := by decide +kernel
theorem dX3_comesBack_113 : decode cX3_comesBack 113 = .ok (.iinc 2 1, 3) := by decide +kernel
theorem dX3_comesBack_116 : decode cX3_comesBack 116 = .ok (.iinc 4 1, 3) := by decide +kernel
theorem dX3_comesBack_119 : decode cX3_comesBack 119 = .ok (.goto (-86), 3) := by decide +kernel
theorem dX3_comesBack_122 : decode cX3_comesBack 122 = .ok (.iinc 3 1, 3) := by decide +kernel
theorem dX3_comesBack_125 : decode cX3_comesBack 125 = .ok (.goto (-107), 3) := by decide +kernel
theorem dX3_comesBack_128 : decode cX3_comesBack 128 = .ok (.iconst 0, 1) := by decide +kernel
theorem dX3_comesBack_129 : decode cX3_comesBack 129 = .ok (.ireturn, 1) := by decide +kernel
theorem dX3_spreadFaults_0 : decode cX3_spreadFaults 0 = .ok (.iconst 1, 1) := by decide +kernel
theorem dX3_spreadFaults_1 : decode cX3_spreadFaults 1 = .ok (.istore_n 2, 1) := by decide +kernel
theorem dX3_spreadFaults_2 : decode cX3_spreadFaults 2 = .ok (.iconst 0, 1) := by decide +kernel
theorem dX3_spreadFaults_3 : decode cX3_spreadFaults 3 = .ok (.istore_n 3, 1) := by decide +kernel
theorem dX3_spreadFaults_4 : decode cX3_spreadFaults 4 = .ok (.iload_n 3, 1) := by decide +kernel
theorem dX3_spreadFaults_5 : decode cX3_spreadFaults 5 = .ok (.sipush 128, 3) := by decide +kernel
theorem dX3_spreadFaults_8 : decode cX3_spreadFaults 8 = .ok (.if_icmp .gt 96, 3) := by decide +kernel
theorem dX3_spreadFaults_11 : decode cX3_spreadFaults 11 = .ok (.iload_n 2, 1) := by decide +kernel
theorem dX3_spreadFaults_12 : decode cX3_spreadFaults 12 = .ok (.ifCond .eq 92, 3) := by decide +kernel
theorem dX3_spreadFaults_15 : decode cX3_spreadFaults 15 = .ok (.iconst 0, 1) := by decide +kernel
theorem dX3_spreadFaults_16 : decode cX3_spreadFaults 16 = .ok (.istore_n 2, 1) := by decide +kernel
theorem dX3_spreadFaults_17 : decode cX3_spreadFaults 17 = .ok (.iconst 0, 1) := by decide +kernel
theorem dX3_spreadFaults_18 : decode cX3_spreadFaults 18 = .ok (.istore 4, 2) := by decide +kernel
theorem dX3_spreadFaults_20 : decode cX3_spreadFaults 20 = .ok (.iload 4, 2) := by decide +kernel
theorem dX3_spreadFaults_22 : decode cX3_spreadFaults 22 = .ok (.aload_n 0, 1) := by decide +kernel
theorem dX3_spreadFaults_23 : decode cX3_spreadFaults 23 = .ok (.getfield 55, 3) := by decide +kernel
theorem dX3_spreadFaults_26 : decode cX3_spreadFaults 26 = .ok (.if_icmp .ge 72, 3) := by decide +kernel
theorem dX3_spreadFaults_29 : decode cX3_spreadFaults 29 = .ok (.aload_n 0, 1) := by decide +kernel
theorem dX3_spreadFaults_30 : decode cX3_spreadFaults 30 = .ok (.getfield 17, 3) := by decide +kernel
theorem dX3_spreadFaults_33 : decode cX3_spreadFaults 33 = .ok (.iload 4, 2) := by decide +kernel
theorem dX3_spreadFaults_35 : decode cX3_spreadFaults 35 = .ok (.iaload, 1) := by decide +kernel
theorem dX3_spreadFaults_36 : decode cX3_spreadFaults 36 = .ok (.istore 5, 2) := by decide +kernel
theorem dX3_spreadFaults_38 : decode cX3_spreadFaults 38 = .ok (.aload_n 1, 1) := by decide +kernel
theorem dX3_spreadFaults_39 : decode cX3_spreadFaults 39 = .ok (.getfield 62, 3) := by decide +kernel
theorem dX3_spreadFaults_42 : decode cX3_spreadFaults 42 = .ok (.iload 5, 2) := by decide +kernel
theorem dX3_spreadFaults_44 : decode cX3_spreadFaults 44 = .ok (.iaload, 1) := by decide +kernel
theorem dX3_spreadFaults_45 : decode cX3_spreadFaults 45 = .ok (.ifCond .ne 47, 3) := by decide +kernel
theorem dX3_spreadFaults_48 : decode cX3_spreadFaults 48 = .ok (.aload_n 0, 1) := by decide +kernel
theorem dX3_spreadFaults_49 : decode cX3_spreadFaults 49 = .ok (.aload_n 0, 1) := by decide +kernel
theorem dX3_spreadFaults_50 : decode cX3_spreadFaults 50 = .ok (.getfield 21, 3) := by decide +kernel
theorem dX3_spreadFaults_53 : decode cX3_spreadFaults 53 = .ok (.iconst 2, 1) := by decide +kernel
theorem dX3_spreadFaults_54 : decode cX3_spreadFaults 54 = .ok (.iload 5, 2) := by decide +kernel
theorem dX3_spreadFaults_56 : decode cX3_spreadFaults 56 = .ok (.imul, 1) := by decide +kernel
theorem dX3_spreadFaults_57 : decode cX3_spreadFaults 57 = .ok (.iaload, 1) := by decide +kernel
theorem dX3_spreadFaults_58 : decode cX3_spreadFaults 58 = .ok (.invokevirtual 116, 3) := by decide +kernel
theorem dX3_spreadFaults_61 : decode cX3_spreadFaults 61 = .ok (.ifCond .ne 21, 3) := by decide +kernel
theorem dX3_spreadFaults_64 : decode cX3_spreadFaults 64 = .ok (.aload_n 0, 1) := by decide +kernel
theorem dX3_spreadFaults_65 : decode cX3_spreadFaults 65 = .ok (.aload_n 0, 1) := by decide +kernel
theorem dX3_spreadFaults_66 : decode cX3_spreadFaults 66 = .ok (.getfield 21, 3) := by decide +kernel
theorem dX3_spreadFaults_69 : decode cX3_spreadFaults 69 = .ok (.iconst 2, 1) := by decide +kernel
theorem dX3_spreadFaults_70 : decode cX3_spreadFaults 70 = .ok (.iload 5, 2) := by decide +kernel
theorem dX3_spreadFaults_72 : decode cX3_spreadFaults 72 = .ok (.imul, 1) := by decide +kernel
theorem dX3_spreadFaults_73 : decode cX3_spreadFaults 73 = .ok (.iconst 1, 1) := by decide +kernel
theorem dX3_spreadFaults_74 : decode cX3_spreadFaults 74 = .ok (.iadd, 1) := by decide +kernel
theorem dX3_spreadFaults_75 : decode cX3_spreadFaults 75 = .ok (.iaload, 1) := by decide +kernel
theorem dX3_spreadFaults_76 : decode cX3_spreadFaults 76 = .ok (.invokevirtual 116, 3) := by decide +kernel
theorem dX3_spreadFaults_79 : decode cX3_spreadFaults 79 = .ok (.ifCond .eq 13, 3) := by decide +kernel
theorem dX3_spreadFaults_82 : decode cX3_spreadFaults 82 = .ok (.aload_n 1, 1) := by decide +kernel
theorem dX3_spreadFaults_83 : decode cX3_spreadFaults 83 = .ok (.getfield 62, 3) := by decide +kernel
theorem dX3_spreadFaults_86 : decode cX3_spreadFaults 86 = .ok (.iload 5, 2) := by decide +kernel
theorem dX3_spreadFaults_88 : decode cX3_spreadFaults 88 = .ok (.iconst 5, 1) := by decide +kernel
theorem dX3_spreadFaults_89 : decode cX3_spreadFaults 89 = .ok (.iastore, 1) := by decide +kernel
theorem dX3_spreadFaults_90 : decode cX3_spreadFaults 90 = .ok (.iconst 1, 1) := by decide +kernel
theorem dX3_spreadFaults_91 : decode cX3_spreadFaults 91 = .ok (.istore_n 2, 1) := by decide +kernel
theorem dX3_spreadFaults_92 : decode cX3_spreadFaults 92 = .ok (.iinc 4 1, 3) := by decide +kernel
theorem dX3_spreadFaults_95 : decode cX3_spreadFaults 95 = .ok (.goto (-75), 3) := by decide +kernel
theorem dX3_spreadFaults_98 : decode cX3_spreadFaults 98 = .ok (.iinc 3 1, 3) := by decide +kernel
theorem dX3_spreadFaults_101 : decode cX3_spreadFaults 101 = .ok (.goto (-97), 3) := by decide +kernel
theorem dX3_spreadFaults_104 : decode cX3_spreadFaults 104 = .ok (.return_, 1) := by decide +kernel
theorem dX3_isFaulty_0 : decode cX3_isFaulty 0 = .ok (.iload_n 1, 1) := by decide +kernel
theorem dX3_isFaulty_1 : decode cX3_isFaulty 1 = .ok (.ifCond .lt 24, 3) := by decide +kernel
theorem dX3_isFaulty_4 : decode cX3_isFaulty 4 = .ok (.aload_n 0, 1) := by decide +kernel
theorem dX3_isFaulty_5 : decode cX3_isFaulty 5 = .ok (.getfield 11, 3) := by decide +kernel
theorem dX3_isFaulty_8 : decode cX3_isFaulty 8 = .ok (.iload_n 1, 1) := by decide +kernel
theorem dX3_isFaulty_9 : decode cX3_isFaulty 9 = .ok (.bipush 16, 2) := by decide +kernel
theorem dX3_isFaulty_11 : decode cX3_isFaulty 11 = .ok (.idiv, 1) := by decide +kernel
theorem dX3_isFaulty_12 : decode cX3_isFaulty 12 = .ok (.aaload, 1) := by decide +kernel
theorem dX3_isFaulty_13 : decode cX3_isFaulty 13 = .ok (.getfield 62, 3) := by decide +kernel
theorem dX3_isFaulty_16 : decode cX3_isFaulty 16 = .ok (.iload_n 1, 1) := by decide +kernel
theorem dX3_isFaulty_17 : decode cX3_isFaulty 17 = .ok (.iaload, 1) := by decide +kernel
theorem dX3_isFaulty_18 : decode cX3_isFaulty 18 = .ok (.ifCond .eq 7, 3) := by decide +kernel
theorem dX3_isFaulty_21 : decode cX3_isFaulty 21 = .ok (.iconst 1, 1) := by decide +kernel
theorem dX3_isFaulty_22 : decode cX3_isFaulty 22 = .ok (.goto 4, 3) := by decide +kernel
theorem dX3_isFaulty_25 : decode cX3_isFaulty 25 = .ok (.iconst 0, 1) := by decide +kernel
theorem dX3_isFaulty_26 : decode cX3_isFaulty 26 = .ok (.ireturn, 1) := by decide +kernel
theorem dX3_findPlain_0 : decode cX3_findPlain 0 = .ok (.iconst 1, 1) := by decide +kernel
theorem dX3_findPlain_1 : decode cX3_findPlain 1 = .ok (.istore_n 2, 1) := by decide +kernel
theorem dX3_findPlain_2 : decode cX3_findPlain 2 = .ok (.iconst 0, 1) := by decide +kernel
theorem dX3_findPlain_3 : decode cX3_findPlain 3 = .ok (.istore_n 3, 1) := by decide +kernel
theorem dX3_findPlain_4 : decode cX3_findPlain 4 = .ok (.iload_n 3, 1) := by decide +kernel
theorem dX3_findPlain_5 : decode cX3_findPlain 5 = .ok (.sipush 128, 3) := by decide +kernel
theorem dX3_findPlain_8 : decode cX3_findPlain 8 = .ok (.if_icmp .gt 120, 3) := by decide +kernel
theorem dX3_findPlain_11 : decode cX3_findPlain 11 = .ok (.iload_n 2, 1) := by decide +kernel
theorem dX3_findPlain_12 : decode cX3_findPlain 12 = .ok (.ifCond .eq 116, 3) := by decide +kernel
theorem dX3_findPlain_15 : decode cX3_findPlain 15 = .ok (.iconst 0, 1) := by decide +kernel
theorem dX3_findPlain_16 : decode cX3_findPlain 16 = .ok (.istore_n 2, 1) := by decide +kernel
theorem dX3_findPlain_17 : decode cX3_findPlain 17 = .ok (.iconst 0, 1) := by decide +kernel
theorem dX3_findPlain_18 : decode cX3_findPlain 18 = .ok (.istore 4, 2) := by decide +kernel
theorem dX3_findPlain_20 : decode cX3_findPlain 20 = .ok (.iload 4, 2) := by decide +kernel
theorem dX3_findPlain_22 : decode cX3_findPlain 22 = .ok (.aload_n 0, 1) := by decide +kernel
theorem dX3_findPlain_23 : decode cX3_findPlain 23 = .ok (.getfield 55, 3) := by decide +kernel
theorem dX3_findPlain_26 : decode cX3_findPlain 26 = .ok (.if_icmp .ge 96, 3) := by decide +kernel
theorem dX3_findPlain_29 : decode cX3_findPlain 29 = .ok (.aload_n 0, 1) := by decide +kernel
theorem dX3_findPlain_30 : decode cX3_findPlain 30 = .ok (.getfield 17, 3) := by decide +kernel
theorem dX3_findPlain_33 : decode cX3_findPlain 33 = .ok (.iload 4, 2) := by decide +kernel
theorem dX3_findPlain_35 : decode cX3_findPlain 35 = .ok (.iaload, 1) := by decide +kernel
theorem dX3_findPlain_36 : decode cX3_findPlain 36 = .ok (.istore 5, 2) := by decide +kernel
theorem dX3_findPlain_38 : decode cX3_findPlain 38 = .ok (.aload_n 1, 1) := by decide +kernel
theorem dX3_findPlain_39 : decode cX3_findPlain 39 = .ok (.getfield 62, 3) := by decide +kernel
theorem dX3_findPlain_42 : decode cX3_findPlain 42 = .ok (.iload 5, 2) := by decide +kernel
theorem dX3_findPlain_44 : decode cX3_findPlain 44 = .ok (.iaload, 1) := by decide +kernel
theorem dX3_findPlain_45 : decode cX3_findPlain 45 = .ok (.ifCond .ne 71, 3) := by decide +kernel
theorem dX3_findPlain_48 : decode cX3_findPlain 48 = .ok (.aload_n 1, 1) := by decide +kernel
theorem dX3_findPlain_49 : decode cX3_findPlain 49 = .ok (.getfield 119, 3) := by decide +kernel
theorem dX3_findPlain_52 : decode cX3_findPlain 52 = .ok (.iload 5, 2) := by decide +kernel
theorem dX3_findPlain_54 : decode cX3_findPlain 54 = .ok (.baload, 1) := by decide +kernel
theorem dX3_findPlain_55 : decode cX3_findPlain 55 = .ok (.ifCond .ne 61, 3) := by decide +kernel
theorem dX3_findPlain_58 : decode cX3_findPlain 58 = .ok (.aload_n 0, 1) := by decide +kernel
theorem dX3_findPlain_59 : decode cX3_findPlain 59 = .ok (.aload_n 0, 1) := by decide +kernel
theorem dX3_findPlain_60 : decode cX3_findPlain 60 = .ok (.getfield 21, 3) := by decide +kernel
theorem dX3_findPlain_63 : decode cX3_findPlain 63 = .ok (.iconst 2, 1) := by decide +kernel
theorem dX3_findPlain_64 : decode cX3_findPlain 64 = .ok (.iload 5, 2) := by decide +kernel
theorem dX3_findPlain_66 : decode cX3_findPlain 66 = .ok (.imul, 1) := by decide +kernel
theorem dX3_findPlain_67 : decode cX3_findPlain 67 = .ok (.iaload, 1) := by decide +kernel
theorem dX3_findPlain_68 : decode cX3_findPlain 68 = .ok (.invokevirtual 122, 3) := by decide +kernel
theorem dX3_findPlain_71 : decode cX3_findPlain 71 = .ok (.ifCond .eq 45, 3) := by decide +kernel
theorem dX3_findPlain_74 : decode cX3_findPlain 74 = .ok (.aload_n 0, 1) := by decide +kernel
theorem dX3_findPlain_75 : decode cX3_findPlain 75 = .ok (.aload_n 0, 1) := by decide +kernel
theorem dX3_findPlain_76 : decode cX3_findPlain 76 = .ok (.getfield 21, 3) := by decide +kernel
theorem dX3_findPlain_79 : decode cX3_findPlain 79 = .ok (.iconst 2, 1) := by decide +kernel
theorem dX3_findPlain_80 : decode cX3_findPlain 80 = .ok (.iload 5, 2) := by decide +kernel
theorem dX3_findPlain_82 : decode cX3_findPlain 82 = .ok (.imul, 1) := by decide +kernel
theorem dX3_findPlain_83 : decode cX3_findPlain 83 = .ok (.iconst 1, 1) := by decide +kernel
theorem dX3_findPlain_84 : decode cX3_findPlain 84 = .ok (.iadd, 1) := by decide +kernel
theorem dX3_findPlain_85 : decode cX3_findPlain 85 = .ok (.iaload, 1) := by decide +kernel
theorem dX3_findPlain_86 : decode cX3_findPlain 86 = .ok (.invokevirtual 122, 3) := by decide +kernel
theorem dX3_findPlain_89 : decode cX3_findPlain 89 = .ok (.ifCond .eq 27, 3) := by decide +kernel
theorem dX3_findPlain_92 : decode cX3_findPlain 92 = .ok (.aload_n 1, 1) := by decide +kernel
theorem dX3_findPlain_93 : decode cX3_findPlain 93 = .ok (.getfield 119, 3) := by decide +kernel
theorem dX3_findPlain_96 : decode cX3_findPlain 96 = .ok (.iload 5, 2) := by decide +kernel
theorem dX3_findPlain_98 : decode cX3_findPlain 98 = .ok (.iconst 1, 1) := by decide +kernel
theorem dX3_findPlain_99 : decode cX3_findPlain 99 = .ok (.bastore, 1) := by decide +kernel
theorem dX3_findPlain_100 : decode cX3_findPlain 100 = .ok (.aload_n 1, 1) := by decide +kernel
theorem dX3_findPlain_101 : decode cX3_findPlain 101 = .ok (.getfield 125, 3) := by decide +kernel
theorem dX3_findPlain_104 : decode cX3_findPlain 104 = .ok (.iload 5, 2) := by decide +kernel
theorem dX3_findPlain_106 : decode cX3_findPlain 106 = .ok (.aload_n 0, 1) := by decide +kernel
theorem dX3_findPlain_107 : decode cX3_findPlain 107 = .ok (.aload_n 1, 1) := by decide +kernel
theorem dX3_findPlain_108 : decode cX3_findPlain 108 = .ok (.iload 5, 2) := by decide +kernel
theorem dX3_findPlain_110 : decode cX3_findPlain 110 = .ok (.invokevirtual 128, 3) := by decide +kernel
theorem dX3_findPlain_113 : decode cX3_findPlain 113 = .ok (.iastore, 1) := by decide +kernel
theorem dX3_findPlain_114 : decode cX3_findPlain 114 = .ok (.iconst 1, 1) := by decide +kernel
theorem dX3_findPlain_115 : decode cX3_findPlain 115 = .ok (.istore_n 2, 1) := by decide +kernel
theorem dX3_findPlain_116 : decode cX3_findPlain 116 = .ok (.iinc 4 1, 3) := by decide +kernel
theorem dX3_findPlain_119 : decode cX3_findPlain 119 = .ok (.goto (-99), 3) := by decide +kernel
theorem dX3_findPlain_122 : decode cX3_findPlain 122 = .ok (.iinc 3 1, 3) := by decide +kernel
theorem dX3_findPlain_125 : decode cX3_findPlain 125 = .ok (.goto (-121), 3) := by decide +kernel
theorem dX3_findPlain_128 : decode cX3_findPlain 128 = .ok (.return_, 1) := by decide +kernel
theorem dX3_isNoCall_0 : decode cX3_isNoCall 0 = .ok (.iload_n 1, 1) := by decide +kernel
theorem dX3_isNoCall_1 : decode cX3_isNoCall 1 = .ok (.ifCond .lt 20, 3) := by decide +kernel
theorem dX3_isNoCall_4 : decode cX3_isNoCall 4 = .ok (.aload_n 0, 1) := by decide +kernel
theorem dX3_isNoCall_5 : decode cX3_isNoCall 5 = .ok (.getfield 11, 3) := by decide +kernel
theorem dX3_isNoCall_8 : decode cX3_isNoCall 8 = .ok (.iload_n 1, 1) := by decide +kernel
theorem dX3_isNoCall_9 : decode cX3_isNoCall 9 = .ok (.bipush 16, 2) := by decide +kernel
theorem dX3_isNoCall_11 : decode cX3_isNoCall 11 = .ok (.idiv, 1) := by decide +kernel
theorem dX3_isNoCall_12 : decode cX3_isNoCall 12 = .ok (.aaload, 1) := by decide +kernel
theorem dX3_isNoCall_13 : decode cX3_isNoCall 13 = .ok (.getfield 119, 3) := by decide +kernel
theorem dX3_isNoCall_16 : decode cX3_isNoCall 16 = .ok (.iload_n 1, 1) := by decide +kernel
theorem dX3_isNoCall_17 : decode cX3_isNoCall 17 = .ok (.baload, 1) := by decide +kernel
theorem dX3_isNoCall_18 : decode cX3_isNoCall 18 = .ok (.ifCond .eq 7, 3) := by decide +kernel
theorem dX3_isNoCall_21 : decode cX3_isNoCall 21 = .ok (.iconst 1, 1) := by decide +kernel
theorem dX3_isNoCall_22 : decode cX3_isNoCall 22 = .ok (.goto 4, 3) := by decide +kernel
theorem dX3_isNoCall_25 : decode cX3_isNoCall 25 = .ok (.iconst 0, 1) := by decide +kernel
theorem dX3_isNoCall_26 : decode cX3_isNoCall 26 = .ok (.ireturn, 1) := by decide +kernel
theorem dX3_numberWithTargets_0 : decode cX3_numberWithTargets 0 = .ok (.aload_n 1, 1) := by decide +kernel
theorem dX3_numberWithTargets_1 : decode cX3_numberWithTargets 1 = .ok (.getfield 77, 3) := by decide +kernel
theorem dX3_numberWithTargets_4 : decode cX3_numberWithTargets 4 = .ok (.getfield 86, 3) := by decide +kernel
theorem dX3_numberWithTargets_7 : decode cX3_numberWithTargets 7 = .ok (.iload_n 2, 1) := by decide +kernel
theorem dX3_numberWithTargets_8 : decode cX3_numberWithTargets 8 = .ok (.iaload, 1) := by decide +kernel
theorem dX3_numberWithTargets_9 : decode cX3_numberWithTargets 9 = .ok (.invokestatic 132, 3) := by decide +kernel
theorem dX3_numberWithTargets_12 : decode cX3_numberWithTargets 12 = .ok (.istore_n 3, 1) := by decide +kernel
theorem dX3_numberWithTargets_13 : decode cX3_numberWithTargets 13 = .ok (.iconst 0, 1) := by decide +kernel
theorem dX3_numberWithTargets_14 : decode cX3_numberWithTargets 14 = .ok (.istore 4, 2) := by decide +kernel
theorem dX3_numberWithTargets_16 : decode cX3_numberWithTargets 16 = .ok (.iload 4, 2) := by decide +kernel
theorem dX3_numberWithTargets_18 : decode cX3_numberWithTargets 18 = .ok (.iconst 2, 1) := by decide +kernel
theorem dX3_numberWithTargets_19 : decode cX3_numberWithTargets 19 = .ok (.if_icmp .ge 55, 3) := by decide +kernel
theorem dX3_numberWithTargets_22 : decode cX3_numberWithTargets 22 = .ok (.aload_n 0, 1) := by decide +kernel
theorem dX3_numberWithTargets_23 : decode cX3_numberWithTargets 23 = .ok (.getfield 21, 3) := by decide +kernel
theorem dX3_numberWithTargets_26 : decode cX3_numberWithTargets 26 = .ok (.iconst 2, 1) := by decide +kernel
theorem dX3_numberWithTargets_27 : decode cX3_numberWithTargets 27 = .ok (.iload_n 2, 1) := by decide +kernel
theorem dX3_numberWithTargets_28 : decode cX3_numberWithTargets 28 = .ok (.imul, 1) := by decide +kernel
theorem dX3_numberWithTargets_29 : decode cX3_numberWithTargets 29 = .ok (.iload 4, 2) := by decide +kernel
theorem dX3_numberWithTargets_31 : decode cX3_numberWithTargets 31 = .ok (.iadd, 1) := by decide +kernel
theorem dX3_numberWithTargets_32 : decode cX3_numberWithTargets 32 = .ok (.iaload, 1) := by decide +kernel
theorem dX3_numberWithTargets_33 : decode cX3_numberWithTargets 33 = .ok (.istore 5, 2) := by decide +kernel
theorem dX3_numberWithTargets_35 : decode cX3_numberWithTargets 35 = .ok (.iload 5, 2) := by decide +kernel
theorem dX3_numberWithTargets_37 : decode cX3_numberWithTargets 37 = .ok (.ifCond .lt 31, 3) := by decide +kernel
theorem dX3_numberWithTargets_40 : decode cX3_numberWithTargets 40 = .ok (.aload_n 0, 1) := by decide +kernel
theorem dX3_numberWithTargets_41 : decode cX3_numberWithTargets 41 = .ok (.iload 5, 2) := by decide +kernel
theorem dX3_numberWithTargets_43 : decode cX3_numberWithTargets 43 = .ok (.invokevirtual 122, 3) := by decide +kernel
theorem dX3_numberWithTargets_46 : decode cX3_numberWithTargets 46 = .ok (.ifCond .eq 22, 3) := by decide +kernel
theorem dX3_numberWithTargets_49 : decode cX3_numberWithTargets 49 = .ok (.iload_n 3, 1) := by decide +kernel
theorem dX3_numberWithTargets_50 : decode cX3_numberWithTargets 50 = .ok (.aload_n 0, 1) := by decide +kernel
theorem dX3_numberWithTargets_51 : decode cX3_numberWithTargets 51 = .ok (.getfield 11, 3) := by decide +kernel
theorem dX3_numberWithTargets_54 : decode cX3_numberWithTargets 54 = .ok (.iload 5, 2) := by decide +kernel
theorem dX3_numberWithTargets_56 : decode cX3_numberWithTargets 56 = .ok (.bipush 16, 2) := by decide +kernel
theorem dX3_numberWithTargets_58 : decode cX3_numberWithTargets 58 = .ok (.idiv, 1) := by decide +kernel
theorem dX3_numberWithTargets_59 : decode cX3_numberWithTargets 59 = .ok (.aaload, 1) := by decide +kernel
theorem dX3_numberWithTargets_60 : decode cX3_numberWithTargets 60 = .ok (.getfield 125, 3) := by decide +kernel
theorem dX3_numberWithTargets_63 : decode cX3_numberWithTargets 63 = .ok (.iload 5, 2) := by decide +kernel
theorem dX3_numberWithTargets_65 : decode cX3_numberWithTargets 65 = .ok (.iaload, 1) := by decide +kernel
theorem dX3_numberWithTargets_66 : decode cX3_numberWithTargets 66 = .ok (.iadd, 1) := by decide +kernel
theorem dX3_numberWithTargets_67 : decode cX3_numberWithTargets 67 = .ok (.istore_n 3, 1) := by decide +kernel
theorem dX3_numberWithTargets_68 : decode cX3_numberWithTargets 68 = .ok (.iinc 4 1, 3) := by decide +kernel
theorem dX3_numberWithTargets_71 : decode cX3_numberWithTargets 71 = .ok (.goto (-55), 3) := by decide +kernel
theorem dX3_numberWithTargets_74 : decode cX3_numberWithTargets 74 = .ok (.iload_n 3, 1) := by decide +kernel
theorem dX3_numberWithTargets_75 : decode cX3_numberWithTargets 75 = .ok (.ireturn, 1) := by decide +kernel
theorem dX3_findCalls_0 : decode cX3_findCalls 0 = .ok (.iconst 0, 1) := by decide +kernel
theorem dX3_findCalls_1 : decode cX3_findCalls 1 = .ok (.istore_n 2, 1) := by decide +kernel
theorem dX3_findCalls_2 : decode cX3_findCalls 2 = .ok (.iload_n 2, 1) := by decide +kernel
theorem dX3_findCalls_3 : decode cX3_findCalls 3 = .ok (.aload_n 0, 1) := by decide +kernel
theorem dX3_findCalls_4 : decode cX3_findCalls 4 = .ok (.getfield 55, 3) := by decide +kernel
theorem dX3_findCalls_7 : decode cX3_findCalls 7 = .ok (.if_icmp .ge 76, 3) := by decide +kernel
theorem dX3_findCalls_10 : decode cX3_findCalls 10 = .ok (.aload_n 0, 1) := by decide +kernel
theorem dX3_findCalls_11 : decode cX3_findCalls 11 = .ok (.getfield 17, 3) := by decide +kernel
theorem dX3_findCalls_14 : decode cX3_findCalls 14 = .ok (.iload_n 2, 1) := by decide +kernel
theorem dX3_findCalls_15 : decode cX3_findCalls 15 = .ok (.iaload, 1) := by decide +kernel
theorem dX3_findCalls_16 : decode cX3_findCalls 16 = .ok (.istore_n 3, 1) := by decide +kernel
theorem dX3_findCalls_17 : decode cX3_findCalls 17 = .ok (.aload_n 1, 1) := by decide +kernel
theorem dX3_findCalls_18 : decode cX3_findCalls 18 = .ok (.getfield 62, 3) := by decide +kernel
theorem dX3_findCalls_21 : decode cX3_findCalls 21 = .ok (.iload_n 3, 1) := by decide +kernel
theorem dX3_findCalls_22 : decode cX3_findCalls 22 = .ok (.iaload, 1) := by decide +kernel
theorem dX3_findCalls_23 : decode cX3_findCalls 23 = .ok (.ifCond .ne 54, 3) := by decide +kernel
theorem dX3_findCalls_26 : decode cX3_findCalls 26 = .ok (.aload_n 1, 1) := by decide +kernel
theorem dX3_findCalls_27 : decode cX3_findCalls 27 = .ok (.getfield 119, 3) := by decide +kernel
theorem dX3_findCalls_30 : decode cX3_findCalls 30 = .ok (.iload_n 3, 1) := by decide +kernel
theorem dX3_findCalls_31 : decode cX3_findCalls 31 = .ok (.baload, 1) := by decide +kernel
theorem dX3_findCalls_32 : decode cX3_findCalls 32 = .ok (.ifCond .ne 45, 3) := by decide +kernel
theorem dX3_findCalls_35 : decode cX3_findCalls 35 = .ok (.aload_n 1, 1) := by decide +kernel
theorem dX3_findCalls_36 : decode cX3_findCalls 36 = .ok (.getfield 125, 3) := by decide +kernel
theorem dX3_findCalls_39 : decode cX3_findCalls 39 = .ok (.iload_n 3, 1) := by decide +kernel
theorem dX3_findCalls_40 : decode cX3_findCalls 40 = .ok (.aload_n 0, 1) := by decide +kernel
theorem dX3_findCalls_41 : decode cX3_findCalls 41 = .ok (.aload_n 1, 1) := by decide +kernel
theorem dX3_findCalls_42 : decode cX3_findCalls 42 = .ok (.iload_n 3, 1) := by decide +kernel
theorem dX3_findCalls_43 : decode cX3_findCalls 43 = .ok (.invokevirtual 128, 3) := by decide +kernel
theorem dX3_findCalls_46 : decode cX3_findCalls 46 = .ok (.iastore, 1) := by decide +kernel
theorem dX3_findCalls_47 : decode cX3_findCalls 47 = .ok (.aload_n 0, 1) := by decide +kernel
theorem dX3_findCalls_48 : decode cX3_findCalls 48 = .ok (.aload_n 1, 1) := by decide +kernel
theorem dX3_findCalls_49 : decode cX3_findCalls 49 = .ok (.iload_n 3, 1) := by decide +kernel
theorem dX3_findCalls_50 : decode cX3_findCalls 50 = .ok (.aload_n 0, 1) := by decide +kernel
theorem dX3_findCalls_51 : decode cX3_findCalls 51 = .ok (.getfield 21, 3) := by decide +kernel
theorem dX3_findCalls_54 : decode cX3_findCalls 54 = .ok (.iconst 2, 1) := by decide +kernel
theorem dX3_findCalls_55 : decode cX3_findCalls 55 = .ok (.iload_n 3, 1) := by decide +kernel
theorem dX3_findCalls_56 : decode cX3_findCalls 56 = .ok (.imul, 1) := by decide +kernel
theorem dX3_findCalls_57 : decode cX3_findCalls 57 = .ok (.iaload, 1) := by decide +kernel
theorem dX3_findCalls_58 : decode cX3_findCalls 58 = .ok (.invokevirtual 136, 3) := by decide +kernel
theorem dX3_findCalls_61 : decode cX3_findCalls 61 = .ok (.aload_n 0, 1) := by decide +kernel
theorem dX3_findCalls_62 : decode cX3_findCalls 62 = .ok (.aload_n 1, 1) := by decide +kernel
theorem dX3_findCalls_63 : decode cX3_findCalls 63 = .ok (.iload_n 3, 1) := by decide +kernel
theorem dX3_findCalls_64 : decode cX3_findCalls 64 = .ok (.aload_n 0, 1) := by decide +kernel
theorem dX3_findCalls_65 : decode cX3_findCalls 65 = .ok (.getfield 21, 3) := by decide +kernel
theorem dX3_findCalls_68 : decode cX3_findCalls 68 = .ok (.iconst 2, 1) := by decide +kernel
theorem dX3_findCalls_69 : decode cX3_findCalls 69 = .ok (.iload_n 3, 1) := by decide +kernel
theorem dX3_findCalls_70 : decode cX3_findCalls 70 = .ok (.imul, 1) := by decide +kernel
theorem dX3_findCalls_71 : decode cX3_findCalls 71 = .ok (.iconst 1, 1) := by decide +kernel
theorem dX3_findCalls_72 : decode cX3_findCalls 72 = .ok (.iadd, 1) := by decide +kernel
theorem dX3_findCalls_73 : decode cX3_findCalls 73 = .ok (.iaload, 1) := by decide +kernel
theorem dX3_findCalls_74 : decode cX3_findCalls 74 = .ok (.invokevirtual 136, 3) := by decide +kernel
theorem dX3_findCalls_77 : decode cX3_findCalls 77 = .ok (.iinc 2 1, 3) := by decide +kernel
theorem dX3_findCalls_80 : decode cX3_findCalls 80 = .ok (.goto (-78), 3) := by decide +kernel
theorem dX3_findCalls_83 : decode cX3_findCalls 83 = .ok (.return_, 1) := by decide +kernel
theorem dX3_addCall_0 : decode cX3_addCall 0 = .ok (.aload_n 0, 1) := by decide +kernel
theorem dX3_addCall_1 : decode cX3_addCall 1 = .ok (.iload_n 3, 1) := by decide +kernel
theorem dX3_addCall_2 : decode cX3_addCall 2 = .ok (.invokevirtual 122, 3) := by decide +kernel
theorem dX3_addCall_5 : decode cX3_addCall 5 = .ok (.ifCond .eq 4, 3) := by decide +kernel
theorem dX3_addCall_8 : decode cX3_addCall 8 = .ok (.return_, 1) := by decide +kernel
theorem dX3_addCall_9 : decode cX3_addCall 9 = .ok (.aload_n 1, 1) := by decide +kernel
theorem dX3_addCall_10 : decode cX3_addCall 10 = .ok (.getfield 140, 3) := by decide +kernel
theorem dX3_addCall_13 : decode cX3_addCall 13 = .ok (.iload_n 2, 1) := by decide +kernel
theorem dX3_addCall_14 : decode cX3_addCall 14 = .ok (.iaload, 1) := by decide +kernel
theorem dX3_addCall_15 : decode cX3_addCall 15 = .ok (.iconst (-1), 1) := by decide +kernel
theorem dX3_addCall_16 : decode cX3_addCall 16 = .ok (.if_icmp .ne 13, 3) := by decide +kernel
theorem dX3_addCall_19 : decode cX3_addCall 19 = .ok (.aload_n 1, 1) := by decide +kernel
theorem dX3_addCall_20 : decode cX3_addCall 20 = .ok (.getfield 140, 3) := by decide +kernel
theorem dX3_addCall_23 : decode cX3_addCall 23 = .ok (.iload_n 2, 1) := by decide +kernel
theorem dX3_addCall_24 : decode cX3_addCall 24 = .ok (.iload_n 3, 1) := by decide +kernel
theorem dX3_addCall_25 : decode cX3_addCall 25 = .ok (.iastore, 1) := by decide +kernel
theorem dX3_addCall_26 : decode cX3_addCall 26 = .ok (.goto 10, 3) := by decide +kernel
theorem dX3_addCall_29 : decode cX3_addCall 29 = .ok (.aload_n 1, 1) := by decide +kernel
theorem dX3_addCall_30 : decode cX3_addCall 30 = .ok (.getfield 143, 3) := by decide +kernel
theorem dX3_addCall_33 : decode cX3_addCall 33 = .ok (.iload_n 2, 1) := by decide +kernel
theorem dX3_addCall_34 : decode cX3_addCall 34 = .ok (.iload_n 3, 1) := by decide +kernel
theorem dX3_addCall_35 : decode cX3_addCall 35 = .ok (.iastore, 1) := by decide +kernel
theorem dX3_addCall_36 : decode cX3_addCall 36 = .ok (.return_, 1) := by decide +kernel
theorem dX3_tellAnswers_0 : decode cX3_tellAnswers 0 = .ok (.iconst 0, 1) := by decide +kernel
theorem dX3_tellAnswers_1 : decode cX3_tellAnswers 1 = .ok (.istore_n 2, 1) := by decide +kernel
theorem dX3_tellAnswers_2 : decode cX3_tellAnswers 2 = .ok (.iload_n 2, 1) := by decide +kernel
theorem dX3_tellAnswers_3 : decode cX3_tellAnswers 3 = .ok (.aload_n 0, 1) := by decide +kernel
theorem dX3_tellAnswers_4 : decode cX3_tellAnswers 4 = .ok (.getfield 55, 3) := by decide +kernel
theorem dX3_tellAnswers_7 : decode cX3_tellAnswers 7 = .ok (.if_icmp .ge 96, 3) := by decide +kernel
theorem dX3_tellAnswers_10 : decode cX3_tellAnswers 10 = .ok (.aload_n 0, 1) := by decide +kernel
theorem dX3_tellAnswers_11 : decode cX3_tellAnswers 11 = .ok (.getfield 17, 3) := by decide +kernel
theorem dX3_tellAnswers_14 : decode cX3_tellAnswers 14 = .ok (.iload_n 2, 1) := by decide +kernel
theorem dX3_tellAnswers_15 : decode cX3_tellAnswers 15 = .ok (.iaload, 1) := by decide +kernel
theorem dX3_tellAnswers_16 : decode cX3_tellAnswers 16 = .ok (.istore_n 3, 1) := by decide +kernel
theorem dX3_tellAnswers_17 : decode cX3_tellAnswers 17 = .ok (.aload_n 1, 1) := by decide +kernel
theorem dX3_tellAnswers_18 : decode cX3_tellAnswers 18 = .ok (.getfield 119, 3) := by decide +kernel
theorem dX3_tellAnswers_21 : decode cX3_tellAnswers 21 = .ok (.iload_n 3, 1) := by decide +kernel
theorem dX3_tellAnswers_22 : decode cX3_tellAnswers 22 = .ok (.baload, 1) := by decide +kernel
theorem dX3_tellAnswers_23 : decode cX3_tellAnswers 23 = .ok (.istore 4, 2) := by decide +kernel
theorem dX3_tellAnswers_25 : decode cX3_tellAnswers 25 = .ok (.aload_n 1, 1) := by decide +kernel
theorem dX3_tellAnswers_26 : decode cX3_tellAnswers 26 = .ok (.getfield 146, 3) := by decide +kernel
theorem dX3_tellAnswers_29 : decode cX3_tellAnswers 29 = .ok (.iload_n 3, 1) := by decide +kernel
theorem dX3_tellAnswers_30 : decode cX3_tellAnswers 30 = .ok (.iload_n 3, 1) := by decide +kernel
theorem dX3_tellAnswers_31 : decode cX3_tellAnswers 31 = .ok (.aload_n 1, 1) := by decide +kernel
theorem dX3_tellAnswers_32 : decode cX3_tellAnswers 32 = .ok (.getfield 89, 3) := by decide +kernel
theorem dX3_tellAnswers_35 : decode cX3_tellAnswers 35 = .ok (.iload_n 3, 1) := by decide +kernel
theorem dX3_tellAnswers_36 : decode cX3_tellAnswers 36 = .ok (.baload, 1) := by decide +kernel
theorem dX3_tellAnswers_37 : decode cX3_tellAnswers 37 = .ok (.ifCond .ne 7, 3) := by decide +kernel
theorem dX3_tellAnswers_40 : decode cX3_tellAnswers 40 = .ok (.iconst 1, 1) := by decide +kernel
theorem dX3_tellAnswers_41 : decode cX3_tellAnswers 41 = .ok (.goto 4, 3) := by decide +kernel
theorem dX3_tellAnswers_44 : decode cX3_tellAnswers 44 = .ok (.iconst 0, 1) := by decide +kernel
theorem dX3_tellAnswers_45 : decode cX3_tellAnswers 45 = .ok (.aload_n 1, 1) := by decide +kernel
theorem dX3_tellAnswers_46 : decode cX3_tellAnswers 46 = .ok (.getfield 62, 3) := by decide +kernel
theorem dX3_tellAnswers_49 : decode cX3_tellAnswers 49 = .ok (.iload_n 3, 1) := by decide +kernel
theorem dX3_tellAnswers_50 : decode cX3_tellAnswers 50 = .ok (.iaload, 1) := by decide +kernel
theorem dX3_tellAnswers_51 : decode cX3_tellAnswers 51 = .ok (.ifCond .eq 7, 3) := by decide +kernel
theorem dX3_tellAnswers_54 : decode cX3_tellAnswers 54 = .ok (.iconst 1, 1) := by decide +kernel
theorem dX3_tellAnswers_55 : decode cX3_tellAnswers 55 = .ok (.goto 4, 3) := by decide +kernel
theorem dX3_tellAnswers_58 : decode cX3_tellAnswers 58 = .ok (.iconst 0, 1) := by decide +kernel
theorem dX3_tellAnswers_59 : decode cX3_tellAnswers 59 = .ok (.iload 4, 2) := by decide +kernel
theorem dX3_tellAnswers_61 : decode cX3_tellAnswers 61 = .ok (.ifCond .eq 16, 3) := by decide +kernel
theorem dX3_tellAnswers_64 : decode cX3_tellAnswers 64 = .ok (.aload_n 1, 1) := by decide +kernel
theorem dX3_tellAnswers_65 : decode cX3_tellAnswers 65 = .ok (.getfield 89, 3) := by decide +kernel
theorem dX3_tellAnswers_68 : decode cX3_tellAnswers 68 = .ok (.iload_n 3, 1) := by decide +kernel
theorem dX3_tellAnswers_69 : decode cX3_tellAnswers 69 = .ok (.baload, 1) := by decide +kernel
theorem dX3_tellAnswers_70 : decode cX3_tellAnswers 70 = .ok (.ifCond .eq 7, 3) := by decide +kernel
theorem dX3_tellAnswers_73 : decode cX3_tellAnswers 73 = .ok (.iconst 1, 1) := by decide +kernel
theorem dX3_tellAnswers_74 : decode cX3_tellAnswers 74 = .ok (.goto 4, 3) := by decide +kernel
theorem dX3_tellAnswers_77 : decode cX3_tellAnswers 77 = .ok (.iconst 0, 1) := by decide +kernel
theorem dX3_tellAnswers_78 : decode cX3_tellAnswers 78 = .ok (.iload 4, 2) := by decide +kernel
theorem dX3_tellAnswers_80 : decode cX3_tellAnswers 80 = .ok (.ifCond .eq 12, 3) := by decide +kernel
theorem dX3_tellAnswers_83 : decode cX3_tellAnswers 83 = .ok (.aload_n 1, 1) := by decide +kernel
theorem dX3_tellAnswers_84 : decode cX3_tellAnswers 84 = .ok (.getfield 125, 3) := by decide +kernel
theorem dX3_tellAnswers_87 : decode cX3_tellAnswers 87 = .ok (.iload_n 3, 1) := by decide +kernel
theorem dX3_tellAnswers_88 : decode cX3_tellAnswers 88 = .ok (.iaload, 1) := by decide +kernel
theorem dX3_tellAnswers_89 : decode cX3_tellAnswers 89 = .ok (.goto 4, 3) := by decide +kernel
theorem dX3_tellAnswers_92 : decode cX3_tellAnswers 92 = .ok (.iconst 0, 1) := by decide +kernel
theorem dX3_tellAnswers_93 : decode cX3_tellAnswers 93 = .ok (.invokestatic 150, 3) := by decide +kernel
theorem dX3_tellAnswers_96 : decode cX3_tellAnswers 96 = .ok (.lastore, 1) := by decide +kernel
end
section
theorem dX3_tellAnswers_97 : decode cX3_tellAnswers 97 = .ok (.iinc 2 1, 3) := by decide +kernel
theorem dX3_tellAnswers_100 : decode cX3_tellAnswers 100 = .ok (.goto (-98), 3) := by decide +kernel
theorem dX3_tellAnswers_103 : decode cX3_tellAnswers 103 = .ok (.return_, 1) := by decide +kernel
theorem dX4_init_0 : decode cX4_init 0 = .ok (.aload_n 0, 1) := by decide +kernel
theorem dX4_init_1 : decode cX4_init 1 = .ok (.invokespecial 3, 3) := by decide +kernel
theorem dX4_init_4 : decode cX4_init 4 = .ok (.aload_n 0, 1) := by decide +kernel
theorem dX4_init_5 : decode cX4_init 5 = .ok (.sipush 128, 3) := by decide +kernel
theorem dX4_init_8 : decode cX4_init 8 = .ok (.newarray .int, 2) := by decide +kernel
theorem dX4_init_10 : decode cX4_init 10 = .ok (.putfield 9, 3) := by decide +kernel
theorem dX4_init_13 : decode cX4_init 13 = .ok (.aload_n 0, 1) := by decide +kernel
theorem dX4_init_14 : decode cX4_init 14 = .ok (.sipush 128, 3) := by decide +kernel
theorem dX4_init_17 : decode cX4_init 17 = .ok (.newarray .int, 2) := by decide +kernel
theorem dX4_init_19 : decode cX4_init 19 = .ok (.putfield 15, 3) := by decide +kernel
theorem dX4_init_22 : decode cX4_init 22 = .ok (.aload_n 0, 1) := by decide +kernel
theorem dX4_init_23 : decode cX4_init 23 = .ok (.bipush 64, 2) := by decide +kernel
theorem dX4_init_25 : decode cX4_init 25 = .ok (.newarray .int, 2) := by decide +kernel
theorem dX4_init_27 : decode cX4_init 27 = .ok (.putfield 18, 3) := by decide +kernel
theorem dX4_init_30 : decode cX4_init 30 = .ok (.aload_n 0, 1) := by decide +kernel
theorem dX4_init_31 : decode cX4_init 31 = .ok (.sipush 128, 3) := by decide +kernel
theorem dX4_init_34 : decode cX4_init 34 = .ok (.newarray .int, 2) := by decide +kernel
theorem dX4_init_36 : decode cX4_init 36 = .ok (.putfield 21, 3) := by decide +kernel
theorem dX4_init_39 : decode cX4_init 39 = .ok (.aload_n 0, 1) := by decide +kernel
theorem dX4_init_40 : decode cX4_init 40 = .ok (.sipush 128, 3) := by decide +kernel
theorem dX4_init_43 : decode cX4_init 43 = .ok (.newarray .int, 2) := by decide +kernel
theorem dX4_init_45 : decode cX4_init 45 = .ok (.putfield 24, 3) := by decide +kernel
theorem dX4_init_48 : decode cX4_init 48 = .ok (.aload_n 0, 1) := by decide +kernel
theorem dX4_init_49 : decode cX4_init 49 = .ok (.bipush 8, 2) := by decide +kernel
theorem dX4_init_51 : decode cX4_init 51 = .ok (.newarray .int, 2) := by decide +kernel
theorem dX4_init_53 : decode cX4_init 53 = .ok (.putfield 27, 3) := by decide +kernel
theorem dX4_init_56 : decode cX4_init 56 = .ok (.aload_n 0, 1) := by decide +kernel
theorem dX4_init_57 : decode cX4_init 57 = .ok (.bipush 8, 2) := by decide +kernel
theorem dX4_init_59 : decode cX4_init 59 = .ok (.newarray .int, 2) := by decide +kernel
theorem dX4_init_61 : decode cX4_init 61 = .ok (.putfield 30, 3) := by decide +kernel
theorem dX4_init_64 : decode cX4_init 64 = .ok (.aload_n 0, 1) := by decide +kernel
theorem dX4_init_65 : decode cX4_init 65 = .ok (.aload_n 1, 1) := by decide +kernel
theorem dX4_init_66 : decode cX4_init 66 = .ok (.putfield 33, 3) := by decide +kernel
theorem dX4_init_69 : decode cX4_init 69 = .ok (.return_, 1) := by decide +kernel
theorem dX4_settle_0 : decode cX4_settle 0 = .ok (.aload_n 0, 1) := by decide +kernel
theorem dX4_settle_1 : decode cX4_settle 1 = .ok (.invokevirtual 37, 3) := by decide +kernel
theorem dX4_settle_4 : decode cX4_settle 4 = .ok (.aload_n 0, 1) := by decide +kernel
theorem dX4_settle_5 : decode cX4_settle 5 = .ok (.invokevirtual 40, 3) := by decide +kernel
theorem dX4_settle_8 : decode cX4_settle 8 = .ok (.aload_n 0, 1) := by decide +kernel
theorem dX4_settle_9 : decode cX4_settle 9 = .ok (.getfield 18, 3) := by decide +kernel
theorem dX4_settle_12 : decode cX4_settle 12 = .ok (.iconst 0, 1) := by decide +kernel
theorem dX4_settle_13 : decode cX4_settle 13 = .ok (.invokestatic 43, 3) := by decide +kernel
theorem dX4_settle_16 : decode cX4_settle 16 = .ok (.iconst 0, 1) := by decide +kernel
theorem dX4_settle_17 : decode cX4_settle 17 = .ok (.istore_n 1, 1) := by decide +kernel
theorem dX4_settle_18 : decode cX4_settle 18 = .ok (.iload_n 1, 1) := by decide +kernel
theorem dX4_settle_19 : decode cX4_settle 19 = .ok (.aload_n 0, 1) := by decide +kernel
theorem dX4_settle_20 : decode cX4_settle 20 = .ok (.getfield 33, 3) := by decide +kernel
theorem dX4_settle_23 : decode cX4_settle 23 = .ok (.getfield 49, 3) := by decide +kernel
theorem dX4_settle_26 : decode cX4_settle 26 = .ok (.bipush 16, 2) := by decide +kernel
theorem dX4_settle_28 : decode cX4_settle 28 = .ok (.imul, 1) := by decide +kernel
theorem dX4_settle_29 : decode cX4_settle 29 = .ok (.if_icmp .ge 55, 3) := by decide +kernel
theorem dX4_settle_32 : decode cX4_settle 32 = .ok (.aload_n 0, 1) := by decide +kernel
theorem dX4_settle_33 : decode cX4_settle 33 = .ok (.getfield 15, 3) := by decide +kernel
theorem dX4_settle_36 : decode cX4_settle 36 = .ok (.iload_n 1, 1) := by decide +kernel
theorem dX4_settle_37 : decode cX4_settle 37 = .ok (.aload_n 0, 1) := by decide +kernel
theorem dX4_settle_38 : decode cX4_settle 38 = .ok (.getfield 33, 3) := by decide +kernel
theorem dX4_settle_41 : decode cX4_settle 41 = .ok (.iload_n 1, 1) := by decide +kernel
theorem dX4_settle_42 : decode cX4_settle 42 = .ok (.invokevirtual 55, 3) := by decide +kernel
theorem dX4_settle_45 : decode cX4_settle 45 = .ok (.ifCond .eq 7, 3) := by decide +kernel
theorem dX4_settle_48 : decode cX4_settle 48 = .ok (.iload_n 1, 1) := by decide +kernel
theorem dX4_settle_49 : decode cX4_settle 49 = .ok (.goto 23, 3) := by decide +kernel
theorem dX4_settle_52 : decode cX4_settle 52 = .ok (.aload_n 0, 1) := by decide +kernel
theorem dX4_settle_53 : decode cX4_settle 53 = .ok (.iload_n 1, 1) := by decide +kernel
theorem dX4_settle_54 : decode cX4_settle 54 = .ok (.aload_n 0, 1) := by decide +kernel
theorem dX4_settle_55 : decode cX4_settle 55 = .ok (.getfield 21, 3) := by decide +kernel
theorem dX4_settle_58 : decode cX4_settle 58 = .ok (.iload_n 1, 1) := by decide +kernel
theorem dX4_settle_59 : decode cX4_settle 59 = .ok (.iaload, 1) := by decide +kernel
theorem dX4_settle_60 : decode cX4_settle 60 = .ok (.aload_n 0, 1) := by decide +kernel
theorem dX4_settle_61 : decode cX4_settle 61 = .ok (.getfield 27, 3) := by decide +kernel
theorem dX4_settle_64 : decode cX4_settle 64 = .ok (.iload_n 1, 1) := by decide +kernel
theorem dX4_settle_65 : decode cX4_settle 65 = .ok (.bipush 16, 2) := by decide +kernel
theorem dX4_settle_67 : decode cX4_settle 67 = .ok (.idiv, 1) := by decide +kernel
theorem dX4_settle_68 : decode cX4_settle 68 = .ok (.iaload, 1) := by decide +kernel
theorem dX4_settle_69 : decode cX4_settle 69 = .ok (.invokevirtual 59, 3) := by decide +kernel
theorem dX4_settle_72 : decode cX4_settle 72 = .ok (.iastore, 1) := by decide +kernel
theorem dX4_settle_73 : decode cX4_settle 73 = .ok (.aload_n 0, 1) := by decide +kernel
theorem dX4_settle_74 : decode cX4_settle 74 = .ok (.iload_n 1, 1) := by decide +kernel
theorem dX4_settle_75 : decode cX4_settle 75 = .ok (.invokevirtual 63, 3) := by decide +kernel
theorem dX4_settle_78 : decode cX4_settle 78 = .ok (.iinc 1 1, 3) := by decide +kernel
theorem dX4_settle_81 : decode cX4_settle 81 = .ok (.goto (-63), 3) := by decide +kernel
theorem dX4_settle_84 : decode cX4_settle 84 = .ok (.return_, 1) := by decide +kernel
theorem dX4_settleImports_0 : decode cX4_settleImports 0 = .ok (.aload_n 0, 1) := by decide +kernel
theorem dX4_settleImports_1 : decode cX4_settleImports 1 = .ok (.getfield 21, 3) := by decide +kernel
theorem dX4_settleImports_4 : decode cX4_settleImports 4 = .ok (.iconst (-1), 1) := by decide +kernel
theorem dX4_settleImports_5 : decode cX4_settleImports 5 = .ok (.invokestatic 43, 3) := by decide +kernel
theorem dX4_settleImports_8 : decode cX4_settleImports 8 = .ok (.aload_n 0, 1) := by decide +kernel
theorem dX4_settleImports_9 : decode cX4_settleImports 9 = .ok (.getfield 24, 3) := by decide +kernel
theorem dX4_settleImports_12 : decode cX4_settleImports 12 = .ok (.iconst (-1), 1) := by decide +kernel
theorem dX4_settleImports_13 : decode cX4_settleImports 13 = .ok (.invokestatic 43, 3) := by decide +kernel
theorem dX4_settleImports_16 : decode cX4_settleImports 16 = .ok (.aload_n 0, 1) := by decide +kernel
theorem dX4_settleImports_17 : decode cX4_settleImports 17 = .ok (.getfield 27, 3) := by decide +kernel
theorem dX4_settleImports_20 : decode cX4_settleImports 20 = .ok (.iconst 0, 1) := by decide +kernel
theorem dX4_settleImports_21 : decode cX4_settleImports 21 = .ok (.invokestatic 43, 3) := by decide +kernel
theorem dX4_settleImports_24 : decode cX4_settleImports 24 = .ok (.aload_n 0, 1) := by decide +kernel
theorem dX4_settleImports_25 : decode cX4_settleImports 25 = .ok (.getfield 30, 3) := by decide +kernel
theorem dX4_settleImports_28 : decode cX4_settleImports 28 = .ok (.iconst 0, 1) := by decide +kernel
theorem dX4_settleImports_29 : decode cX4_settleImports 29 = .ok (.invokestatic 43, 3) := by decide +kernel
theorem dX4_settleImports_32 : decode cX4_settleImports 32 = .ok (.iconst 0, 1) := by decide +kernel
theorem dX4_settleImports_33 : decode cX4_settleImports 33 = .ok (.istore_n 1, 1) := by decide +kernel
theorem dX4_settleImports_34 : decode cX4_settleImports 34 = .ok (.iload_n 1, 1) := by decide +kernel
theorem dX4_settleImports_35 : decode cX4_settleImports 35 = .ok (.aload_n 0, 1) := by decide +kernel
theorem dX4_settleImports_36 : decode cX4_settleImports 36 = .ok (.getfield 33, 3) := by decide +kernel
theorem dX4_settleImports_39 : decode cX4_settleImports 39 = .ok (.getfield 49, 3) := by decide +kernel
theorem dX4_settleImports_42 : decode cX4_settleImports 42 = .ok (.if_icmp .ge 45, 3) := by decide +kernel
theorem dX4_settleImports_45 : decode cX4_settleImports 45 = .ok (.aload_n 0, 1) := by decide +kernel
theorem dX4_settleImports_46 : decode cX4_settleImports 46 = .ok (.getfield 33, 3) := by decide +kernel
theorem dX4_settleImports_49 : decode cX4_settleImports 49 = .ok (.getfield 67, 3) := by decide +kernel
theorem dX4_settleImports_52 : decode cX4_settleImports 52 = .ok (.iload_n 1, 1) := by decide +kernel
theorem dX4_settleImports_53 : decode cX4_settleImports 53 = .ok (.iaload, 1) := by decide +kernel
theorem dX4_settleImports_54 : decode cX4_settleImports 54 = .ok (.iconst 1, 1) := by decide +kernel
theorem dX4_settleImports_55 : decode cX4_settleImports 55 = .ok (.isub, 1) := by decide +kernel
theorem dX4_settleImports_56 : decode cX4_settleImports 56 = .ok (.istore_n 2, 1) := by decide +kernel
theorem dX4_settleImports_57 : decode cX4_settleImports 57 = .ok (.iload_n 2, 1) := by decide +kernel
theorem dX4_settleImports_58 : decode cX4_settleImports 58 = .ok (.ifCond .lt 23, 3) := by decide +kernel
theorem dX4_settleImports_61 : decode cX4_settleImports 61 = .ok (.aload_n 0, 1) := by decide +kernel
theorem dX4_settleImports_62 : decode cX4_settleImports 62 = .ok (.iload_n 1, 1) := by decide +kernel
theorem dX4_settleImports_63 : decode cX4_settleImports 63 = .ok (.aload_n 0, 1) := by decide +kernel
theorem dX4_settleImports_64 : decode cX4_settleImports 64 = .ok (.getfield 33, 3) := by decide +kernel
theorem dX4_settleImports_67 : decode cX4_settleImports 67 = .ok (.iload_n 1, 1) := by decide +kernel
theorem dX4_settleImports_68 : decode cX4_settleImports 68 = .ok (.iload_n 2, 1) := by decide +kernel
theorem dX4_settleImports_69 : decode cX4_settleImports 69 = .ok (.invokevirtual 70, 3) := by decide +kernel
theorem dX4_settleImports_72 : decode cX4_settleImports 72 = .ok (.invokevirtual 74, 3) := by decide +kernel
theorem dX4_settleImports_75 : decode cX4_settleImports 75 = .ok (.iinc 2 (-1), 3) := by decide +kernel
theorem dX4_settleImports_78 : decode cX4_settleImports 78 = .ok (.goto (-21), 3) := by decide +kernel
theorem dX4_settleImports_81 : decode cX4_settleImports 81 = .ok (.iinc 1 1, 3) := by decide +kernel
theorem dX4_settleImports_84 : decode cX4_settleImports 84 = .ok (.goto (-50), 3) := by decide +kernel
theorem dX4_settleImports_87 : decode cX4_settleImports 87 = .ok (.return_, 1) := by decide +kernel
theorem dX4_settleImport_0 : decode cX4_settleImport 0 = .ok (.iload_n 2, 1) := by decide +kernel
theorem dX4_settleImport_1 : decode cX4_settleImport 1 = .ok (.invokestatic 78, 3) := by decide +kernel
theorem dX4_settleImport_4 : decode cX4_settleImport 4 = .ok (.istore_n 3, 1) := by decide +kernel
theorem dX4_settleImport_5 : decode cX4_settleImport 5 = .ok (.iload_n 2, 1) := by decide +kernel
theorem dX4_settleImport_6 : decode cX4_settleImport 6 = .ok (.invokestatic 83, 3) := by decide +kernel
theorem dX4_settleImport_9 : decode cX4_settleImport 9 = .ok (.ifCond .eq 42, 3) := by decide +kernel
theorem dX4_settleImport_12 : decode cX4_settleImport 12 = .ok (.aload_n 0, 1) := by decide +kernel
theorem dX4_settleImport_13 : decode cX4_settleImport 13 = .ok (.getfield 27, 3) := by decide +kernel
theorem dX4_settleImport_16 : decode cX4_settleImport 16 = .ok (.iload_n 1, 1) := by decide +kernel
theorem dX4_settleImport_17 : decode cX4_settleImport 17 = .ok (.dup2, 1) := by decide +kernel
theorem dX4_settleImport_18 : decode cX4_settleImport 18 = .ok (.iaload, 1) := by decide +kernel
theorem dX4_settleImport_19 : decode cX4_settleImport 19 = .ok (.iconst 1, 1) := by decide +kernel
theorem dX4_settleImport_20 : decode cX4_settleImport 20 = .ok (.iload_n 2, 1) := by decide +kernel
theorem dX4_settleImport_21 : decode cX4_settleImport 21 = .ok (.invokestatic 86, 3) := by decide +kernel
theorem dX4_settleImport_24 : decode cX4_settleImport 24 = .ok (.ishl, 1) := by decide +kernel
theorem dX4_settleImport_25 : decode cX4_settleImport 25 = .ok (.ior, 1) := by decide +kernel
theorem dX4_settleImport_26 : decode cX4_settleImport 26 = .ok (.iastore, 1) := by decide +kernel
theorem dX4_settleImport_27 : decode cX4_settleImport 27 = .ok (.aload_n 0, 1) := by decide +kernel
theorem dX4_settleImport_28 : decode cX4_settleImport 28 = .ok (.getfield 30, 3) := by decide +kernel
theorem dX4_settleImport_31 : decode cX4_settleImport 31 = .ok (.iload_n 1, 1) := by decide +kernel
theorem dX4_settleImport_32 : decode cX4_settleImport 32 = .ok (.dup2, 1) := by decide +kernel
theorem dX4_settleImport_33 : decode cX4_settleImport 33 = .ok (.iaload, 1) := by decide +kernel
theorem dX4_settleImport_34 : decode cX4_settleImport 34 = .ok (.iload_n 3, 1) := by decide +kernel
theorem dX4_settleImport_35 : decode cX4_settleImport 35 = .ok (.ifCond .eq 12, 3) := by decide +kernel
theorem dX4_settleImport_38 : decode cX4_settleImport 38 = .ok (.iconst 1, 1) := by decide +kernel
theorem dX4_settleImport_39 : decode cX4_settleImport 39 = .ok (.iload_n 2, 1) := by decide +kernel
theorem dX4_settleImport_40 : decode cX4_settleImport 40 = .ok (.invokestatic 86, 3) := by decide +kernel
theorem dX4_settleImport_43 : decode cX4_settleImport 43 = .ok (.ishl, 1) := by decide +kernel
theorem dX4_settleImport_44 : decode cX4_settleImport 44 = .ok (.goto 4, 3) := by decide +kernel
theorem dX4_settleImport_47 : decode cX4_settleImport 47 = .ok (.iconst 0, 1) := by decide +kernel
theorem dX4_settleImport_48 : decode cX4_settleImport 48 = .ok (.ior, 1) := by decide +kernel
theorem dX4_settleImport_49 : decode cX4_settleImport 49 = .ok (.iastore, 1) := by decide +kernel
theorem dX4_settleImport_50 : decode cX4_settleImport 50 = .ok (.return_, 1) := by decide +kernel
theorem dX4_settleImport_51 : decode cX4_settleImport 51 = .ok (.iload_n 1, 1) := by decide +kernel
theorem dX4_settleImport_52 : decode cX4_settleImport 52 = .ok (.bipush 16, 2) := by decide +kernel
theorem dX4_settleImport_54 : decode cX4_settleImport 54 = .ok (.imul, 1) := by decide +kernel
theorem dX4_settleImport_55 : decode cX4_settleImport 55 = .ok (.iload_n 2, 1) := by decide +kernel
theorem dX4_settleImport_56 : decode cX4_settleImport 56 = .ok (.invokestatic 90, 3) := by decide +kernel
theorem dX4_settleImport_59 : decode cX4_settleImport 59 = .ok (.iadd, 1) := by decide +kernel
theorem dX4_settleImport_60 : decode cX4_settleImport 60 = .ok (.istore 4, 2) := by decide +kernel
theorem dX4_settleImport_62 : decode cX4_settleImport 62 = .ok (.aload_n 0, 1) := by decide +kernel
theorem dX4_settleImport_63 : decode cX4_settleImport 63 = .ok (.getfield 21, 3) := by decide +kernel
theorem dX4_settleImport_66 : decode cX4_settleImport 66 = .ok (.iload 4, 2) := by decide +kernel
theorem dX4_settleImport_68 : decode cX4_settleImport 68 = .ok (.iload_n 2, 1) := by decide +kernel
theorem dX4_settleImport_69 : decode cX4_settleImport 69 = .ok (.invokestatic 93, 3) := by decide +kernel
theorem dX4_settleImport_72 : decode cX4_settleImport 72 = .ok (.iastore, 1) := by decide +kernel
theorem dX4_settleImport_73 : decode cX4_settleImport 73 = .ok (.iload_n 3, 1) := by decide +kernel
theorem dX4_settleImport_74 : decode cX4_settleImport 74 = .ok (.ifCond .eq 17, 3) := by decide +kernel
theorem dX4_settleImport_77 : decode cX4_settleImport 77 = .ok (.aload_n 0, 1) := by decide +kernel
theorem dX4_settleImport_78 : decode cX4_settleImport 78 = .ok (.getfield 24, 3) := by decide +kernel
theorem dX4_settleImport_81 : decode cX4_settleImport 81 = .ok (.iload 4, 2) := by decide +kernel
theorem dX4_settleImport_83 : decode cX4_settleImport 83 = .ok (.aload_n 0, 1) := by decide +kernel
theorem dX4_settleImport_84 : decode cX4_settleImport 84 = .ok (.getfield 21, 3) := by decide +kernel
theorem dX4_settleImport_87 : decode cX4_settleImport 87 = .ok (.iload 4, 2) := by decide +kernel
theorem dX4_settleImport_89 : decode cX4_settleImport 89 = .ok (.iaload, 1) := by decide +kernel
theorem dX4_settleImport_90 : decode cX4_settleImport 90 = .ok (.iastore, 1) := by decide +kernel
theorem dX4_settleImport_91 : decode cX4_settleImport 91 = .ok (.return_, 1) := by decide +kernel
theorem dX4_settleOutside_0 : decode cX4_settleOutside 0 = .ok (.aload_n 0, 1) := by decide +kernel
theorem dX4_settleOutside_1 : decode cX4_settleOutside 1 = .ok (.getfield 9, 3) := by decide +kernel
theorem dX4_settleOutside_4 : decode cX4_settleOutside 4 = .ok (.iconst (-1), 1) := by decide +kernel
theorem dX4_settleOutside_5 : decode cX4_settleOutside 5 = .ok (.invokestatic 43, 3) := by decide +kernel
theorem dX4_settleOutside_8 : decode cX4_settleOutside 8 = .ok (.iconst 1, 1) := by decide +kernel
theorem dX4_settleOutside_9 : decode cX4_settleOutside 9 = .ok (.istore_n 1, 1) := by decide +kernel
theorem dX4_settleOutside_10 : decode cX4_settleOutside 10 = .ok (.iconst 0, 1) := by decide +kernel
theorem dX4_settleOutside_11 : decode cX4_settleOutside 11 = .ok (.istore_n 2, 1) := by decide +kernel
theorem dX4_settleOutside_12 : decode cX4_settleOutside 12 = .ok (.iload_n 2, 1) := by decide +kernel
theorem dX4_settleOutside_13 : decode cX4_settleOutside 13 = .ok (.sipush 256, 3) := by decide +kernel
theorem dX4_settleOutside_16 : decode cX4_settleOutside 16 = .ok (.if_icmp .gt 65, 3) := by decide +kernel
theorem dX4_settleOutside_19 : decode cX4_settleOutside 19 = .ok (.iload_n 1, 1) := by decide +kernel
theorem dX4_settleOutside_20 : decode cX4_settleOutside 20 = .ok (.ifCond .eq 61, 3) := by decide +kernel
theorem dX4_settleOutside_23 : decode cX4_settleOutside 23 = .ok (.iconst 0, 1) := by decide +kernel
theorem dX4_settleOutside_24 : decode cX4_settleOutside 24 = .ok (.istore_n 1, 1) := by decide +kernel
theorem dX4_settleOutside_25 : decode cX4_settleOutside 25 = .ok (.iconst 0, 1) := by decide +kernel
theorem dX4_settleOutside_26 : decode cX4_settleOutside 26 = .ok (.istore_n 3, 1) := by decide +kernel
theorem dX4_settleOutside_27 : decode cX4_settleOutside 27 = .ok (.iload_n 3, 1) := by decide +kernel
theorem dX4_settleOutside_28 : decode cX4_settleOutside 28 = .ok (.aload_n 0, 1) := by decide +kernel
theorem dX4_settleOutside_29 : decode cX4_settleOutside 29 = .ok (.getfield 33, 3) := by decide +kernel
theorem dX4_settleOutside_32 : decode cX4_settleOutside 32 = .ok (.getfield 49, 3) := by decide +kernel
theorem dX4_settleOutside_35 : decode cX4_settleOutside 35 = .ok (.bipush 16, 2) := by decide +kernel
theorem dX4_settleOutside_37 : decode cX4_settleOutside 37 = .ok (.imul, 1) := by decide +kernel
theorem dX4_settleOutside_38 : decode cX4_settleOutside 38 = .ok (.if_icmp .ge 37, 3) := by decide +kernel
theorem dX4_settleOutside_41 : decode cX4_settleOutside 41 = .ok (.aload_n 0, 1) := by decide +kernel
theorem dX4_settleOutside_42 : decode cX4_settleOutside 42 = .ok (.iload_n 3, 1) := by decide +kernel
theorem dX4_settleOutside_43 : decode cX4_settleOutside 43 = .ok (.invokevirtual 96, 3) := by decide +kernel
theorem dX4_settleOutside_46 : decode cX4_settleOutside 46 = .ok (.istore 4, 2) := by decide +kernel
theorem dX4_settleOutside_48 : decode cX4_settleOutside 48 = .ok (.iload 4, 2) := by decide +kernel
theorem dX4_settleOutside_50 : decode cX4_settleOutside 50 = .ok (.aload_n 0, 1) := by decide +kernel
theorem dX4_settleOutside_51 : decode cX4_settleOutside 51 = .ok (.getfield 9, 3) := by decide +kernel
theorem dX4_settleOutside_54 : decode cX4_settleOutside 54 = .ok (.iload_n 3, 1) := by decide +kernel
theorem dX4_settleOutside_55 : decode cX4_settleOutside 55 = .ok (.iaload, 1) := by decide +kernel
theorem dX4_settleOutside_56 : decode cX4_settleOutside 56 = .ok (.if_icmp .eq 13, 3) := by decide +kernel
theorem dX4_settleOutside_59 : decode cX4_settleOutside 59 = .ok (.aload_n 0, 1) := by decide +kernel
theorem dX4_settleOutside_60 : decode cX4_settleOutside 60 = .ok (.getfield 9, 3) := by decide +kernel
theorem dX4_settleOutside_63 : decode cX4_settleOutside 63 = .ok (.iload_n 3, 1) := by decide +kernel
theorem dX4_settleOutside_64 : decode cX4_settleOutside 64 = .ok (.iload 4, 2) := by decide +kernel
theorem dX4_settleOutside_66 : decode cX4_settleOutside 66 = .ok (.iastore, 1) := by decide +kernel
theorem dX4_settleOutside_67 : decode cX4_settleOutside 67 = .ok (.iconst 1, 1) := by decide +kernel
theorem dX4_settleOutside_68 : decode cX4_settleOutside 68 = .ok (.istore_n 1, 1) := by decide +kernel
theorem dX4_settleOutside_69 : decode cX4_settleOutside 69 = .ok (.iinc 3 1, 3) := by decide +kernel
theorem dX4_settleOutside_72 : decode cX4_settleOutside 72 = .ok (.goto (-45), 3) := by decide +kernel
theorem dX4_settleOutside_75 : decode cX4_settleOutside 75 = .ok (.iinc 2 1, 3) := by decide +kernel
theorem dX4_settleOutside_78 : decode cX4_settleOutside 78 = .ok (.goto (-66), 3) := by decide +kernel
theorem dX4_settleOutside_81 : decode cX4_settleOutside 81 = .ok (.return_, 1) := by decide +kernel
theorem dX4_lookedUp_0 : decode cX4_lookedUp 0 = .ok (.aload_n 0, 1) := by decide +kernel
theorem dX4_lookedUp_1 : decode cX4_lookedUp 1 = .ok (.getfield 33, 3) := by decide +kernel
theorem dX4_lookedUp_4 : decode cX4_lookedUp 4 = .ok (.iload_n 1, 1) := by decide +kernel
theorem dX4_lookedUp_5 : decode cX4_lookedUp 5 = .ok (.invokevirtual 55, 3) := by decide +kernel
theorem dX4_lookedUp_8 : decode cX4_lookedUp 8 = .ok (.ifCond .eq 24, 3) := by decide +kernel
theorem dX4_lookedUp_11 : decode cX4_lookedUp 11 = .ok (.aload_n 0, 1) := by decide +kernel
theorem dX4_lookedUp_12 : decode cX4_lookedUp 12 = .ok (.getfield 33, 3) := by decide +kernel
theorem dX4_lookedUp_15 : decode cX4_lookedUp 15 = .ok (.getfield 99, 3) := by decide +kernel
theorem dX4_lookedUp_18 : decode cX4_lookedUp 18 = .ok (.iload_n 1, 1) := by decide +kernel
theorem dX4_lookedUp_19 : decode cX4_lookedUp 19 = .ok (.iaload, 1) := by decide +kernel
theorem dX4_lookedUp_20 : decode cX4_lookedUp 20 = .ok (.invokestatic 102, 3) := by decide +kernel
theorem dX4_lookedUp_23 : decode cX4_lookedUp 23 = .ok (.ifCond .eq 7, 3) := by decide +kernel
theorem dX4_lookedUp_26 : decode cX4_lookedUp 26 = .ok (.iload_n 1, 1) := by decide +kernel
theorem dX4_lookedUp_27 : decode cX4_lookedUp 27 = .ok (.goto 4, 3) := by decide +kernel
theorem dX4_lookedUp_30 : decode cX4_lookedUp 30 = .ok (.iconst (-1), 1) := by decide +kernel
theorem dX4_lookedUp_31 : decode cX4_lookedUp 31 = .ok (.ireturn, 1) := by decide +kernel
theorem dX4_lookedUp_32 : decode cX4_lookedUp 32 = .ok (.aload_n 0, 1) := by decide +kernel
theorem dX4_lookedUp_33 : decode cX4_lookedUp 33 = .ok (.iload_n 1, 1) := by decide +kernel
theorem dX4_lookedUp_34 : decode cX4_lookedUp 34 = .ok (.aload_n 0, 1) := by decide +kernel
theorem dX4_lookedUp_35 : decode cX4_lookedUp 35 = .ok (.getfield 24, 3) := by decide +kernel
theorem dX4_lookedUp_38 : decode cX4_lookedUp 38 = .ok (.iload_n 1, 1) := by decide +kernel
theorem dX4_lookedUp_39 : decode cX4_lookedUp 39 = .ok (.iaload, 1) := by decide +kernel
theorem dX4_lookedUp_40 : decode cX4_lookedUp 40 = .ok (.aload_n 0, 1) := by decide +kernel
theorem dX4_lookedUp_41 : decode cX4_lookedUp 41 = .ok (.getfield 30, 3) := by decide +kernel
theorem dX4_lookedUp_44 : decode cX4_lookedUp 44 = .ok (.iload_n 1, 1) := by decide +kernel
theorem dX4_lookedUp_45 : decode cX4_lookedUp 45 = .ok (.bipush 16, 2) := by decide +kernel
theorem dX4_lookedUp_47 : decode cX4_lookedUp 47 = .ok (.idiv, 1) := by decide +kernel
theorem dX4_lookedUp_48 : decode cX4_lookedUp 48 = .ok (.iaload, 1) := by decide +kernel
theorem dX4_lookedUp_49 : decode cX4_lookedUp 49 = .ok (.invokevirtual 59, 3) := by decide +kernel
theorem dX4_lookedUp_52 : decode cX4_lookedUp 52 = .ok (.ireturn, 1) := by decide +kernel
theorem dX4_broughtTo_0 : decode cX4_broughtTo 0 = .ok (.iload_n 2, 1) := by decide +kernel
theorem dX4_broughtTo_1 : decode cX4_broughtTo 1 = .ok (.iconst (-1), 1) := by decide +kernel
theorem dX4_broughtTo_2 : decode cX4_broughtTo 2 = .ok (.if_icmp .eq 10, 3) := by decide +kernel
theorem dX4_broughtTo_5 : decode cX4_broughtTo 5 = .ok (.aload_n 0, 1) := by decide +kernel
theorem dX4_broughtTo_6 : decode cX4_broughtTo 6 = .ok (.getfield 9, 3) := by decide +kernel
theorem dX4_broughtTo_9 : decode cX4_broughtTo 9 = .ok (.iload_n 2, 1) := by decide +kernel
theorem dX4_broughtTo_10 : decode cX4_broughtTo 10 = .ok (.iaload, 1) := by decide +kernel
theorem dX4_broughtTo_11 : decode cX4_broughtTo 11 = .ok (.ireturn, 1) := by decide +kernel
theorem dX4_broughtTo_12 : decode cX4_broughtTo 12 = .ok (.iconst (-1), 1) := by decide +kernel
theorem dX4_broughtTo_13 : decode cX4_broughtTo 13 = .ok (.istore 4, 2) := by decide +kernel
theorem dX4_broughtTo_15 : decode cX4_broughtTo 15 = .ok (.iconst 0, 1) := by decide +kernel
theorem dX4_broughtTo_16 : decode cX4_broughtTo 16 = .ok (.istore 5, 2) := by decide +kernel
theorem dX4_broughtTo_18 : decode cX4_broughtTo 18 = .ok (.iload 5, 2) := by decide +kernel
theorem dX4_broughtTo_20 : decode cX4_broughtTo 20 = .ok (.bipush 8, 2) := by decide +kernel
theorem dX4_broughtTo_22 : decode cX4_broughtTo 22 = .ok (.if_icmp .ge 44, 3) := by decide +kernel
theorem dX4_broughtTo_25 : decode cX4_broughtTo 25 = .ok (.iload_n 3, 1) := by decide +kernel
theorem dX4_broughtTo_26 : decode cX4_broughtTo 26 = .ok (.ifCond .eq 40, 3) := by decide +kernel
theorem dX4_broughtTo_29 : decode cX4_broughtTo 29 = .ok (.iload_n 3, 1) := by decide +kernel
theorem dX4_broughtTo_30 : decode cX4_broughtTo 30 = .ok (.iload 5, 2) := by decide +kernel
theorem dX4_broughtTo_32 : decode cX4_broughtTo 32 = .ok (.invokestatic 107, 3) := by decide +kernel
theorem dX4_broughtTo_35 : decode cX4_broughtTo 35 = .ok (.ifCond .eq 25, 3) := by decide +kernel
theorem dX4_broughtTo_38 : decode cX4_broughtTo 38 = .ok (.iload 4, 2) := by decide +kernel
theorem dX4_broughtTo_40 : decode cX4_broughtTo 40 = .ok (.aload_n 0, 1) := by decide +kernel
theorem dX4_broughtTo_41 : decode cX4_broughtTo 41 = .ok (.getfield 9, 3) := by decide +kernel
theorem dX4_broughtTo_44 : decode cX4_broughtTo 44 = .ok (.iload 5, 2) := by decide +kernel
theorem dX4_broughtTo_46 : decode cX4_broughtTo 46 = .ok (.bipush 16, 2) := by decide +kernel
theorem dX4_broughtTo_48 : decode cX4_broughtTo 48 = .ok (.imul, 1) := by decide +kernel
theorem dX4_broughtTo_49 : decode cX4_broughtTo 49 = .ok (.iload_n 1, 1) := by decide +kernel
theorem dX4_broughtTo_50 : decode cX4_broughtTo 50 = .ok (.bipush 16, 2) := by decide +kernel
theorem dX4_broughtTo_52 : decode cX4_broughtTo 52 = .ok (.irem, 1) := by decide +kernel
theorem dX4_broughtTo_53 : decode cX4_broughtTo 53 = .ok (.iadd, 1) := by decide +kernel
theorem dX4_broughtTo_54 : decode cX4_broughtTo 54 = .ok (.iaload, 1) := by decide +kernel
theorem dX4_broughtTo_55 : decode cX4_broughtTo 55 = .ok (.invokestatic 113, 3) := by decide +kernel
theorem dX4_broughtTo_58 : decode cX4_broughtTo 58 = .ok (.istore 4, 2) := by decide +kernel
theorem dX4_broughtTo_60 : decode cX4_broughtTo 60 = .ok (.iinc 5 1, 3) := by decide +kernel
theorem dX4_broughtTo_63 : decode cX4_broughtTo 63 = .ok (.goto (-45), 3) := by decide +kernel
theorem dX4_broughtTo_66 : decode cX4_broughtTo 66 = .ok (.iload 4, 2) := by decide +kernel
theorem dX4_broughtTo_68 : decode cX4_broughtTo 68 = .ok (.ireturn, 1) := by decide +kernel
theorem dX4_joined_0 : decode cX4_joined 0 = .ok (.iload_n 0, 1) := by decide +kernel
theorem dX4_joined_1 : decode cX4_joined 1 = .ok (.iconst (-1), 1) := by decide +kernel
theorem dX4_joined_2 : decode cX4_joined 2 = .ok (.if_icmp .ne 5, 3) := by decide +kernel
theorem dX4_joined_5 : decode cX4_joined 5 = .ok (.iload_n 1, 1) := by decide +kernel
theorem dX4_joined_6 : decode cX4_joined 6 = .ok (.ireturn, 1) := by decide +kernel
theorem dX4_joined_7 : decode cX4_joined 7 = .ok (.iload_n 1, 1) := by decide +kernel
theorem dX4_joined_8 : decode cX4_joined 8 = .ok (.iconst (-1), 1) := by decide +kernel
theorem dX4_joined_9 : decode cX4_joined 9 = .ok (.if_icmp .eq 8, 3) := by decide +kernel
theorem dX4_joined_12 : decode cX4_joined 12 = .ok (.iload_n 1, 1) := by decide +kernel
theorem dX4_joined_13 : decode cX4_joined 13 = .ok (.iload_n 0, 1) := by decide +kernel
theorem dX4_joined_14 : decode cX4_joined 14 = .ok (.if_icmp .ne 7, 3) := by decide +kernel
theorem dX4_joined_17 : decode cX4_joined 17 = .ok (.iload_n 0, 1) := by decide +kernel
theorem dX4_joined_18 : decode cX4_joined 18 = .ok (.goto 5, 3) := by decide +kernel
theorem dX4_joined_21 : decode cX4_joined 21 = .ok (.bipush (-2), 2) := by decide +kernel
theorem dX4_joined_23 : decode cX4_joined 23 = .ok (.ireturn, 1) := by decide +kernel
theorem dX4_wantReferences_0 : decode cX4_wantReferences 0 = .ok (.aload_n 0, 1) := by decide +kernel
theorem dX4_wantReferences_1 : decode cX4_wantReferences 1 = .ok (.getfield 33, 3) := by decide +kernel
theorem dX4_wantReferences_4 : decode cX4_wantReferences 4 = .ok (.iload_n 1, 1) := by decide +kernel
theorem dX4_wantReferences_5 : decode cX4_wantReferences 5 = .ok (.invokevirtual 55, 3) := by decide +kernel
theorem dX4_wantReferences_8 : decode cX4_wantReferences 8 = .ok (.ifCond .eq 37, 3) := by decide +kernel
theorem dX4_wantReferences_11 : decode cX4_wantReferences 11 = .ok (.iconst 0, 1) := by decide +kernel
theorem dX4_wantReferences_12 : decode cX4_wantReferences 12 = .ok (.istore_n 2, 1) := by decide +kernel
theorem dX4_wantReferences_13 : decode cX4_wantReferences 13 = .ok (.iload_n 2, 1) := by decide +kernel
theorem dX4_wantReferences_14 : decode cX4_wantReferences 14 = .ok (.iconst 2, 1) := by decide +kernel
theorem dX4_wantReferences_15 : decode cX4_wantReferences 15 = .ok (.if_icmp .ge 30, 3) := by decide +kernel
theorem dX4_wantReferences_18 : decode cX4_wantReferences 18 = .ok (.aload_n 0, 1) := by decide +kernel
theorem dX4_wantReferences_19 : decode cX4_wantReferences 19 = .ok (.iload_n 1, 1) := by decide +kernel
theorem dX4_wantReferences_20 : decode cX4_wantReferences 20 = .ok (.bipush 16, 2) := by decide +kernel
theorem dX4_wantReferences_22 : decode cX4_wantReferences 22 = .ok (.idiv, 1) := by decide +kernel
theorem dX4_wantReferences_23 : decode cX4_wantReferences 23 = .ok (.aload_n 0, 1) := by decide +kernel
theorem dX4_wantReferences_24 : decode cX4_wantReferences 24 = .ok (.getfield 33, 3) := by decide +kernel
theorem dX4_wantReferences_27 : decode cX4_wantReferences 27 = .ok (.getfield 99, 3) := by decide +kernel
theorem dX4_wantReferences_30 : decode cX4_wantReferences 30 = .ok (.iload_n 1, 1) := by decide +kernel
theorem dX4_wantReferences_31 : decode cX4_wantReferences 31 = .ok (.iaload, 1) := by decide +kernel
theorem dX4_wantReferences_32 : decode cX4_wantReferences 32 = .ok (.iload_n 2, 1) := by decide +kernel
theorem dX4_wantReferences_33 : decode cX4_wantReferences 33 = .ok (.invokestatic 116, 3) := by decide +kernel
theorem dX4_wantReferences_36 : decode cX4_wantReferences 36 = .ok (.invokevirtual 119, 3) := by decide +kernel
theorem dX4_wantReferences_39 : decode cX4_wantReferences 39 = .ok (.iinc 2 1, 3) := by decide +kernel
theorem dX4_wantReferences_42 : decode cX4_wantReferences 42 = .ok (.goto (-29), 3) := by decide +kernel
theorem dX4_wantReferences_45 : decode cX4_wantReferences 45 = .ok (.return_, 1) := by decide +kernel
theorem dX4_want_0 : decode cX4_want 0 = .ok (.iload_n 2, 1) := by decide +kernel
theorem dX4_want_1 : decode cX4_want 1 = .ok (.iconst (-1), 1) := by decide +kernel
theorem dX4_want_2 : decode cX4_want 2 = .ok (.if_icmp .eq 19, 3) := by decide +kernel
theorem dX4_want_5 : decode cX4_want 5 = .ok (.aload_n 0, 1) := by decide +kernel
theorem dX4_want_6 : decode cX4_want 6 = .ok (.getfield 33, 3) := by decide +kernel
theorem dX4_want_9 : decode cX4_want 9 = .ok (.iload_n 1, 1) := by decide +kernel
theorem dX4_want_10 : decode cX4_want 10 = .ok (.bipush 16, 2) := by decide +kernel
theorem dX4_want_12 : decode cX4_want 12 = .ok (.imul, 1) := by decide +kernel
theorem dX4_want_13 : decode cX4_want 13 = .ok (.iload_n 2, 1) := by decide +kernel
theorem dX4_want_14 : decode cX4_want 14 = .ok (.iadd, 1) := by decide +kernel
theorem dX4_want_15 : decode cX4_want 15 = .ok (.invokevirtual 55, 3) := by decide +kernel
theorem dX4_want_18 : decode cX4_want 18 = .ok (.ifCond .eq 4, 3) := by decide +kernel
theorem dX4_want_21 : decode cX4_want 21 = .ok (.return_, 1) := by decide +kernel
theorem dX4_want_22 : decode cX4_want 22 = .ok (.aload_n 0, 1) := by decide +kernel
theorem dX4_want_23 : decode cX4_want 23 = .ok (.getfield 21, 3) := by decide +kernel
theorem dX4_want_26 : decode cX4_want 26 = .ok (.iload_n 1, 1) := by decide +kernel
theorem dX4_want_27 : decode cX4_want 27 = .ok (.bipush 16, 2) := by decide +kernel
theorem dX4_want_29 : decode cX4_want 29 = .ok (.imul, 1) := by decide +kernel
theorem dX4_want_30 : decode cX4_want 30 = .ok (.iload_n 2, 1) := by decide +kernel
theorem dX4_want_31 : decode cX4_want 31 = .ok (.iadd, 1) := by decide +kernel
theorem dX4_want_32 : decode cX4_want 32 = .ok (.iaload, 1) := by decide +kernel
theorem dX4_want_33 : decode cX4_want 33 = .ok (.istore_n 3, 1) := by decide +kernel
theorem dX4_want_34 : decode cX4_want 34 = .ok (.iload_n 3, 1) := by decide +kernel
theorem dX4_want_35 : decode cX4_want 35 = .ok (.iconst (-1), 1) := by decide +kernel
theorem dX4_want_36 : decode cX4_want 36 = .ok (.if_icmp .eq 27, 3) := by decide +kernel
theorem dX4_want_39 : decode cX4_want 39 = .ok (.aload_n 0, 1) := by decide +kernel
theorem dX4_want_40 : decode cX4_want 40 = .ok (.getfield 18, 3) := by decide +kernel
theorem dX4_want_43 : decode cX4_want 43 = .ok (.iload_n 1, 1) := by decide +kernel
theorem dX4_want_44 : decode cX4_want 44 = .ok (.bipush 8, 2) := by decide +kernel
theorem dX4_want_46 : decode cX4_want 46 = .ok (.imul, 1) := by decide +kernel
theorem dX4_want_47 : decode cX4_want 47 = .ok (.iload_n 3, 1) := by decide +kernel
theorem dX4_want_48 : decode cX4_want 48 = .ok (.bipush 16, 2) := by decide +kernel
theorem dX4_want_50 : decode cX4_want 50 = .ok (.idiv, 1) := by decide +kernel
theorem dX4_want_51 : decode cX4_want 51 = .ok (.iadd, 1) := by decide +kernel
theorem dX4_want_52 : decode cX4_want 52 = .ok (.dup2, 1) := by decide +kernel
theorem dX4_want_53 : decode cX4_want 53 = .ok (.iaload, 1) := by decide +kernel
theorem dX4_want_54 : decode cX4_want 54 = .ok (.iconst 1, 1) := by decide +kernel
theorem dX4_want_55 : decode cX4_want 55 = .ok (.iload_n 3, 1) := by decide +kernel
theorem dX4_want_56 : decode cX4_want 56 = .ok (.bipush 16, 2) := by decide +kernel
theorem dX4_want_58 : decode cX4_want 58 = .ok (.irem, 1) := by decide +kernel
theorem dX4_want_59 : decode cX4_want 59 = .ok (.ishl, 1) := by decide +kernel
theorem dX4_want_60 : decode cX4_want 60 = .ok (.ior, 1) := by decide +kernel
theorem dX4_want_61 : decode cX4_want 61 = .ok (.iastore, 1) := by decide +kernel
theorem dX4_want_62 : decode cX4_want 62 = .ok (.return_, 1) := by decide +kernel
theorem dX4_want_63 : decode cX4_want 63 = .ok (.iconst 0, 1) := by decide +kernel
theorem dX4_want_64 : decode cX4_want 64 = .ok (.istore 4, 2) := by decide +kernel
theorem dX4_want_66 : decode cX4_want 66 = .ok (.iload 4, 2) := by decide +kernel
theorem dX4_want_68 : decode cX4_want 68 = .ok (.bipush 8, 2) := by decide +kernel
theorem dX4_want_70 : decode cX4_want 70 = .ok (.if_icmp .ge 41, 3) := by decide +kernel
theorem dX4_want_73 : decode cX4_want 73 = .ok (.aload_n 0, 1) := by decide +kernel
theorem dX4_want_74 : decode cX4_want 74 = .ok (.getfield 27, 3) := by decide +kernel
theorem dX4_want_77 : decode cX4_want 77 = .ok (.iload_n 1, 1) := by decide +kernel
theorem dX4_want_78 : decode cX4_want 78 = .ok (.iaload, 1) := by decide +kernel
theorem dX4_want_79 : decode cX4_want 79 = .ok (.iload 4, 2) := by decide +kernel
theorem dX4_want_81 : decode cX4_want 81 = .ok (.invokestatic 107, 3) := by decide +kernel
theorem dX4_want_84 : decode cX4_want 84 = .ok (.ifCond .eq 21, 3) := by decide +kernel
theorem dX4_want_87 : decode cX4_want 87 = .ok (.aload_n 0, 1) := by decide +kernel
theorem dX4_want_88 : decode cX4_want 88 = .ok (.getfield 18, 3) := by decide +kernel
theorem dX4_want_91 : decode cX4_want 91 = .ok (.iload_n 1, 1) := by decide +kernel
theorem dX4_want_92 : decode cX4_want 92 = .ok (.bipush 8, 2) := by decide +kernel
theorem dX4_want_94 : decode cX4_want 94 = .ok (.imul, 1) := by decide +kernel
theorem dX4_want_95 : decode cX4_want 95 = .ok (.iload 4, 2) := by decide +kernel
theorem dX4_want_97 : decode cX4_want 97 = .ok (.iadd, 1) := by decide +kernel
theorem dX4_want_98 : decode cX4_want 98 = .ok (.dup2, 1) := by decide +kernel
theorem dX4_want_99 : decode cX4_want 99 = .ok (.iaload, 1) := by decide +kernel
theorem dX4_want_100 : decode cX4_want 100 = .ok (.iconst 1, 1) := by decide +kernel
theorem dX4_want_101 : decode cX4_want 101 = .ok (.iload_n 2, 1) := by decide +kernel
theorem dX4_want_102 : decode cX4_want 102 = .ok (.ishl, 1) := by decide +kernel
theorem dX4_want_103 : decode cX4_want 103 = .ok (.ior, 1) := by decide +kernel
theorem dX4_want_104 : decode cX4_want 104 = .ok (.iastore, 1) := by decide +kernel
theorem dX4_want_105 : decode cX4_want 105 = .ok (.iinc 4 1, 3) := by decide +kernel
theorem dX4_want_108 : decode cX4_want 108 = .ok (.goto (-42), 3) := by decide +kernel
theorem dX4_want_111 : decode cX4_want 111 = .ok (.return_, 1) := by decide +kernel
theorem dX4_wantedBy_0 : decode cX4_wantedBy 0 = .ok (.iconst 0, 1) := by decide +kernel
theorem dX4_wantedBy_1 : decode cX4_wantedBy 1 = .ok (.istore_n 2, 1) := by decide +kernel
theorem dX4_wantedBy_2 : decode cX4_wantedBy 2 = .ok (.iconst 0, 1) := by decide +kernel
theorem dX4_wantedBy_3 : decode cX4_wantedBy 3 = .ok (.istore_n 3, 1) := by decide +kernel
theorem dX4_wantedBy_4 : decode cX4_wantedBy 4 = .ok (.iload_n 3, 1) := by decide +kernel
theorem dX4_wantedBy_5 : decode cX4_wantedBy 5 = .ok (.bipush 8, 2) := by decide +kernel
theorem dX4_wantedBy_7 : decode cX4_wantedBy 7 = .ok (.if_icmp .ge 26, 3) := by decide +kernel
theorem dX4_wantedBy_10 : decode cX4_wantedBy 10 = .ok (.iload_n 2, 1) := by decide +kernel
theorem dX4_wantedBy_11 : decode cX4_wantedBy 11 = .ok (.aload_n 0, 1) := by decide +kernel
theorem dX4_wantedBy_12 : decode cX4_wantedBy 12 = .ok (.getfield 18, 3) := by decide +kernel
theorem dX4_wantedBy_15 : decode cX4_wantedBy 15 = .ok (.iload_n 1, 1) := by decide +kernel
theorem dX4_wantedBy_16 : decode cX4_wantedBy 16 = .ok (.bipush 8, 2) := by decide +kernel
theorem dX4_wantedBy_18 : decode cX4_wantedBy 18 = .ok (.imul, 1) := by decide +kernel
theorem dX4_wantedBy_19 : decode cX4_wantedBy 19 = .ok (.iload_n 3, 1) := by decide +kernel
theorem dX4_wantedBy_20 : decode cX4_wantedBy 20 = .ok (.iadd, 1) := by decide +kernel
theorem dX4_wantedBy_21 : decode cX4_wantedBy 21 = .ok (.iaload, 1) := by decide +kernel
theorem dX4_wantedBy_22 : decode cX4_wantedBy 22 = .ok (.invokestatic 122, 3) := by decide +kernel
theorem dX4_wantedBy_25 : decode cX4_wantedBy 25 = .ok (.iadd, 1) := by decide +kernel
theorem dX4_wantedBy_26 : decode cX4_wantedBy 26 = .ok (.istore_n 2, 1) := by decide +kernel
theorem dX4_wantedBy_27 : decode cX4_wantedBy 27 = .ok (.iinc 3 1, 3) := by decide +kernel
theorem dX4_wantedBy_30 : decode cX4_wantedBy 30 = .ok (.goto (-26), 3) := by decide +kernel
theorem dX4_wantedBy_33 : decode cX4_wantedBy 33 = .ok (.iload_n 2, 1) := by decide +kernel
theorem dX4_wantedBy_34 : decode cX4_wantedBy 34 = .ok (.ireturn, 1) := by decide +kernel
theorem dX4_isWanted_0 : decode cX4_isWanted 0 = .ok (.aload_n 0, 1) := by decide +kernel
theorem dX4_isWanted_1 : decode cX4_isWanted 1 = .ok (.getfield 18, 3) := by decide +kernel
theorem dX4_isWanted_4 : decode cX4_isWanted 4 = .ok (.iload_n 1, 1) := by decide +kernel
theorem dX4_isWanted_5 : decode cX4_isWanted 5 = .ok (.bipush 8, 2) := by decide +kernel
theorem dX4_isWanted_7 : decode cX4_isWanted 7 = .ok (.imul, 1) := by decide +kernel
theorem dX4_isWanted_8 : decode cX4_isWanted 8 = .ok (.iload_n 2, 1) := by decide +kernel
theorem dX4_isWanted_9 : decode cX4_isWanted 9 = .ok (.bipush 16, 2) := by decide +kernel
theorem dX4_isWanted_11 : decode cX4_isWanted 11 = .ok (.idiv, 1) := by decide +kernel
theorem dX4_isWanted_12 : decode cX4_isWanted 12 = .ok (.iadd, 1) := by decide +kernel
theorem dX4_isWanted_13 : decode cX4_isWanted 13 = .ok (.iaload, 1) := by decide +kernel
theorem dX4_isWanted_14 : decode cX4_isWanted 14 = .ok (.iload_n 2, 1) := by decide +kernel
theorem dX4_isWanted_15 : decode cX4_isWanted 15 = .ok (.bipush 16, 2) := by decide +kernel
theorem dX4_isWanted_17 : decode cX4_isWanted 17 = .ok (.irem, 1) := by decide +kernel
theorem dX4_isWanted_18 : decode cX4_isWanted 18 = .ok (.ishr, 1) := by decide +kernel
theorem dX4_isWanted_19 : decode cX4_isWanted 19 = .ok (.iconst 1, 1) := by decide +kernel
theorem dX4_isWanted_20 : decode cX4_isWanted 20 = .ok (.iand, 1) := by decide +kernel
theorem dX4_isWanted_21 : decode cX4_isWanted 21 = .ok (.iconst 1, 1) := by decide +kernel
theorem dX4_isWanted_22 : decode cX4_isWanted 22 = .ok (.if_icmp .ne 7, 3) := by decide +kernel
theorem dX4_isWanted_25 : decode cX4_isWanted 25 = .ok (.iconst 1, 1) := by decide +kernel
theorem dX4_isWanted_26 : decode cX4_isWanted 26 = .ok (.goto 4, 3) := by decide +kernel
theorem dX4_isWanted_29 : decode cX4_isWanted 29 = .ok (.iconst 0, 1) := by decide +kernel
theorem dX4_isWanted_30 : decode cX4_isWanted 30 = .ok (.ireturn, 1) := by decide +kernel
theorem dX5_init_0 : decode cX5_init 0 = .ok (.aload_n 0, 1) := by decide +kernel
theorem dX5_init_1 : decode cX5_init 1 = .ok (.invokespecial 3, 3) := by decide +kernel
theorem dX5_init_4 : decode cX5_init 4 = .ok (.aload_n 0, 1) := by decide +kernel
theorem dX5_init_5 : decode cX5_init 5 = .ok (.new 9, 3) := by decide +kernel
theorem dX5_init_8 : decode cX5_init 8 = .ok (.dup, 1) := by decide +kernel
theorem dX5_init_9 : decode cX5_init 9 = .ok (.invokespecial 11, 3) := by decide +kernel
theorem dX5_init_12 : decode cX5_init 12 = .ok (.putfield 12, 3) := by decide +kernel
theorem dX5_init_15 : decode cX5_init 15 = .ok (.aload_n 0, 1) := by decide +kernel
theorem dX5_init_16 : decode cX5_init 16 = .ok (.sipush 128, 3) := by decide +kernel
theorem dX5_init_19 : decode cX5_init 19 = .ok (.newarray .long, 2) := by decide +kernel
theorem dX5_init_21 : decode cX5_init 21 = .ok (.putfield 18, 3) := by decide +kernel
theorem dX5_init_24 : decode cX5_init 24 = .ok (.aload_n 0, 1) := by decide +kernel
theorem dX5_init_25 : decode cX5_init 25 = .ok (.sipush 128, 3) := by decide +kernel
theorem dX5_init_28 : decode cX5_init 28 = .ok (.newarray .long, 2) := by decide +kernel
theorem dX5_init_30 : decode cX5_init 30 = .ok (.putfield 22, 3) := by decide +kernel
theorem dX5_init_33 : decode cX5_init 33 = .ok (.aload_n 0, 1) := by decide +kernel
theorem dX5_init_34 : decode cX5_init 34 = .ok (.sipush 128, 3) := by decide +kernel
theorem dX5_init_37 : decode cX5_init 37 = .ok (.newarray .int, 2) := by decide +kernel
theorem dX5_init_39 : decode cX5_init 39 = .ok (.putfield 25, 3) := by decide +kernel
theorem dX5_init_42 : decode cX5_init 42 = .ok (.aload_n 0, 1) := by decide +kernel
theorem dX5_init_43 : decode cX5_init 43 = .ok (.sipush 128, 3) := by decide +kernel
theorem dX5_init_46 : decode cX5_init 46 = .ok (.newarray .boolean, 2) := by decide +kernel
theorem dX5_init_48 : decode cX5_init 48 = .ok (.putfield 29, 3) := by decide +kernel
theorem dX5_init_51 : decode cX5_init 51 = .ok (.aload_n 0, 1) := by decide +kernel
theorem dX5_init_52 : decode cX5_init 52 = .ok (.sipush 128, 3) := by decide +kernel
theorem dX5_init_55 : decode cX5_init 55 = .ok (.newarray .boolean, 2) := by decide +kernel
theorem dX5_init_57 : decode cX5_init 57 = .ok (.putfield 33, 3) := by decide +kernel
theorem dX5_init_60 : decode cX5_init 60 = .ok (.aload_n 0, 1) := by decide +kernel
theorem dX5_init_61 : decode cX5_init 61 = .ok (.sipush 128, 3) := by decide +kernel
theorem dX5_init_64 : decode cX5_init 64 = .ok (.newarray .int, 2) := by decide +kernel
theorem dX5_init_66 : decode cX5_init 66 = .ok (.putfield 36, 3) := by decide +kernel
theorem dX5_init_69 : decode cX5_init 69 = .ok (.aload_n 0, 1) := by decide +kernel
theorem dX5_init_70 : decode cX5_init 70 = .ok (.sipush 128, 3) := by decide +kernel
theorem dX5_init_73 : decode cX5_init 73 = .ok (.newarray .int, 2) := by decide +kernel
theorem dX5_init_75 : decode cX5_init 75 = .ok (.putfield 39, 3) := by decide +kernel
theorem dX5_init_78 : decode cX5_init 78 = .ok (.aload_n 0, 1) := by decide +kernel
theorem dX5_init_79 : decode cX5_init 79 = .ok (.sipush 128, 3) := by decide +kernel
theorem dX5_init_82 : decode cX5_init 82 = .ok (.newarray .int, 2) := by decide +kernel
theorem dX5_init_84 : decode cX5_init 84 = .ok (.putfield 42, 3) := by decide +kernel
theorem dX5_init_87 : decode cX5_init 87 = .ok (.iconst 0, 1) := by decide +kernel
theorem dX5_init_88 : decode cX5_init 88 = .ok (.istore_n 1, 1) := by decide +kernel
theorem dX5_init_89 : decode cX5_init 89 = .ok (.iload_n 1, 1) := by decide +kernel
theorem dX5_init_90 : decode cX5_init 90 = .ok (.sipush 128, 3) := by decide +kernel
theorem dX5_init_93 : decode cX5_init 93 = .ok (.if_icmp .ge 14, 3) := by decide +kernel
theorem dX5_init_96 : decode cX5_init 96 = .ok (.aload_n 0, 1) := by decide +kernel
theorem dX5_init_97 : decode cX5_init 97 = .ok (.iload_n 1, 1) := by decide +kernel
theorem dX5_init_98 : decode cX5_init 98 = .ok (.invokevirtual 45, 3) := by decide +kernel
theorem dX5_init_101 : decode cX5_init 101 = .ok (.iinc 1 1, 3) := by decide +kernel
theorem dX5_init_104 : decode cX5_init 104 = .ok (.goto (-15), 3) := by decide +kernel
theorem dX5_init_107 : decode cX5_init 107 = .ok (.return_, 1) := by decide +kernel
theorem dX5_begin_0 : decode cX5_begin 0 = .ok (.aload_n 0, 1) := by decide +kernel
theorem dX5_begin_1 : decode cX5_begin 1 = .ok (.iload_n 1, 1) := by decide +kernel
theorem dX5_begin_2 : decode cX5_begin 2 = .ok (.putfield 49, 3) := by decide +kernel
theorem dX5_begin_5 : decode cX5_begin 5 = .ok (.aload_n 0, 1) := by decide +kernel
theorem dX5_begin_6 : decode cX5_begin 6 = .ok (.getfield 12, 3) := by decide +kernel
theorem dX5_begin_9 : decode cX5_begin 9 = .ok (.aload_n 2, 1) := by decide +kernel
theorem dX5_begin_10 : decode cX5_begin 10 = .ok (.invokevirtual 53, 3) := by decide +kernel
theorem dX5_begin_13 : decode cX5_begin 13 = .ok (.aload_n 0, 1) := by decide +kernel
theorem dX5_begin_14 : decode cX5_begin 14 = .ok (.getfield 18, 3) := by decide +kernel
theorem dX5_begin_17 : decode cX5_begin 17 = .ok (.ldc2_w 57, 3) := by decide +kernel
theorem dX5_begin_20 : decode cX5_begin 20 = .ok (.invokestatic 59, 3) := by decide +kernel
theorem dX5_begin_23 : decode cX5_begin 23 = .ok (.iconst 0, 1) := by decide +kernel
theorem dX5_begin_24 : decode cX5_begin 24 = .ok (.istore_n 3, 1) := by decide +kernel
theorem dX5_begin_25 : decode cX5_begin 25 = .ok (.iload_n 3, 1) := by decide +kernel
theorem dX5_begin_26 : decode cX5_begin 26 = .ok (.sipush 128, 3) := by decide +kernel
theorem dX5_begin_29 : decode cX5_begin 29 = .ok (.if_icmp .ge 14, 3) := by decide +kernel
theorem dX5_begin_32 : decode cX5_begin 32 = .ok (.aload_n 0, 1) := by decide +kernel
theorem dX5_begin_33 : decode cX5_begin 33 = .ok (.iload_n 3, 1) := by decide +kernel
theorem dX5_begin_34 : decode cX5_begin 34 = .ok (.invokevirtual 45, 3) := by decide +kernel
theorem dX5_begin_37 : decode cX5_begin 37 = .ok (.iinc 3 1, 3) := by decide +kernel
theorem dX5_begin_40 : decode cX5_begin 40 = .ok (.goto (-15), 3) := by decide +kernel
theorem dX5_begin_43 : decode cX5_begin 43 = .ok (.return_, 1) := by decide +kernel
theorem dX5_setUnbuilt_0 : decode cX5_setUnbuilt 0 = .ok (.aload_n 0, 1) := by decide +kernel
theorem dX5_setUnbuilt_1 : decode cX5_setUnbuilt 1 = .ok (.getfield 22, 3) := by decide +kernel
theorem dX5_setUnbuilt_4 : decode cX5_setUnbuilt 4 = .ok (.iload_n 1, 1) := by decide +kernel
theorem dX5_setUnbuilt_5 : decode cX5_setUnbuilt 5 = .ok (.iload_n 1, 1) := by decide +kernel
theorem dX5_setUnbuilt_6 : decode cX5_setUnbuilt 6 = .ok (.iconst 1, 1) := by decide +kernel
theorem dX5_setUnbuilt_7 : decode cX5_setUnbuilt 7 = .ok (.iconst 1, 1) := by decide +kernel
theorem dX5_setUnbuilt_8 : decode cX5_setUnbuilt 8 = .ok (.iconst 0, 1) := by decide +kernel
theorem dX5_setUnbuilt_9 : decode cX5_setUnbuilt 9 = .ok (.iconst 0, 1) := by decide +kernel
theorem dX5_setUnbuilt_10 : decode cX5_setUnbuilt 10 = .ok (.invokestatic 65, 3) := by decide +kernel
theorem dX5_setUnbuilt_13 : decode cX5_setUnbuilt 13 = .ok (.lastore, 1) := by decide +kernel
theorem dX5_setUnbuilt_14 : decode cX5_setUnbuilt 14 = .ok (.aload_n 0, 1) := by decide +kernel
theorem dX5_setUnbuilt_15 : decode cX5_setUnbuilt 15 = .ok (.getfield 25, 3) := by decide +kernel
theorem dX5_setUnbuilt_18 : decode cX5_setUnbuilt 18 = .ok (.iload_n 1, 1) := by decide +kernel
theorem dX5_setUnbuilt_19 : decode cX5_setUnbuilt 19 = .ok (.iconst 1, 1) := by decide +kernel
theorem dX5_setUnbuilt_20 : decode cX5_setUnbuilt 20 = .ok (.iastore, 1) := by decide +kernel
theorem dX5_setUnbuilt_21 : decode cX5_setUnbuilt 21 = .ok (.aload_n 0, 1) := by decide +kernel
theorem dX5_setUnbuilt_22 : decode cX5_setUnbuilt 22 = .ok (.getfield 29, 3) := by decide +kernel
theorem dX5_setUnbuilt_25 : decode cX5_setUnbuilt 25 = .ok (.iload_n 1, 1) := by decide +kernel
theorem dX5_setUnbuilt_26 : decode cX5_setUnbuilt 26 = .ok (.iconst 0, 1) := by decide +kernel
theorem dX5_setUnbuilt_27 : decode cX5_setUnbuilt 27 = .ok (.bastore, 1) := by decide +kernel
theorem dX5_setUnbuilt_28 : decode cX5_setUnbuilt 28 = .ok (.aload_n 0, 1) := by decide +kernel
theorem dX5_setUnbuilt_29 : decode cX5_setUnbuilt 29 = .ok (.getfield 33, 3) := by decide +kernel
theorem dX5_setUnbuilt_32 : decode cX5_setUnbuilt 32 = .ok (.iload_n 1, 1) := by decide +kernel
theorem dX5_setUnbuilt_33 : decode cX5_setUnbuilt 33 = .ok (.iconst 0, 1) := by decide +kernel
theorem dX5_setUnbuilt_34 : decode cX5_setUnbuilt 34 = .ok (.bastore, 1) := by decide +kernel
theorem dX5_setUnbuilt_35 : decode cX5_setUnbuilt 35 = .ok (.aload_n 0, 1) := by decide +kernel
theorem dX5_setUnbuilt_36 : decode cX5_setUnbuilt 36 = .ok (.getfield 36, 3) := by decide +kernel
theorem dX5_setUnbuilt_39 : decode cX5_setUnbuilt 39 = .ok (.iload_n 1, 1) := by decide +kernel
theorem dX5_setUnbuilt_40 : decode cX5_setUnbuilt 40 = .ok (.iconst 0, 1) := by decide +kernel
theorem dX5_setUnbuilt_41 : decode cX5_setUnbuilt 41 = .ok (.iastore, 1) := by decide +kernel
theorem dX5_setUnbuilt_42 : decode cX5_setUnbuilt 42 = .ok (.aload_n 0, 1) := by decide +kernel
theorem dX5_setUnbuilt_43 : decode cX5_setUnbuilt 43 = .ok (.getfield 39, 3) := by decide +kernel
theorem dX5_setUnbuilt_46 : decode cX5_setUnbuilt 46 = .ok (.iload_n 1, 1) := by decide +kernel
theorem dX5_setUnbuilt_47 : decode cX5_setUnbuilt 47 = .ok (.iconst (-1), 1) := by decide +kernel
theorem dX5_setUnbuilt_48 : decode cX5_setUnbuilt 48 = .ok (.iastore, 1) := by decide +kernel
theorem dX5_setUnbuilt_49 : decode cX5_setUnbuilt 49 = .ok (.aload_n 0, 1) := by decide +kernel
theorem dX5_setUnbuilt_50 : decode cX5_setUnbuilt 50 = .ok (.getfield 42, 3) := by decide +kernel
theorem dX5_setUnbuilt_53 : decode cX5_setUnbuilt 53 = .ok (.iload_n 1, 1) := by decide +kernel
theorem dX5_setUnbuilt_54 : decode cX5_setUnbuilt 54 = .ok (.iconst (-1), 1) := by decide +kernel
theorem dX5_setUnbuilt_55 : decode cX5_setUnbuilt 55 = .ok (.iastore, 1) := by decide +kernel
theorem dX5_setUnbuilt_56 : decode cX5_setUnbuilt 56 = .ok (.return_, 1) := by decide +kernel
theorem dX5_callCount_0 : decode cX5_callCount 0 = .ok (.aload_n 0, 1) := by decide +kernel
theorem dX5_callCount_1 : decode cX5_callCount 1 = .ok (.getfield 39, 3) := by decide +kernel
theorem dX5_callCount_4 : decode cX5_callCount 4 = .ok (.iload_n 1, 1) := by decide +kernel
theorem dX5_callCount_5 : decode cX5_callCount 5 = .ok (.iaload, 1) := by decide +kernel
theorem dX5_callCount_6 : decode cX5_callCount 6 = .ok (.iconst (-1), 1) := by decide +kernel
theorem dX5_callCount_7 : decode cX5_callCount 7 = .ok (.if_icmp .ne 7, 3) := by decide +kernel
theorem dX5_callCount_10 : decode cX5_callCount 10 = .ok (.iconst 0, 1) := by decide +kernel
theorem dX5_callCount_11 : decode cX5_callCount 11 = .ok (.goto 4, 3) := by decide +kernel
theorem dX5_callCount_14 : decode cX5_callCount 14 = .ok (.iconst 1, 1) := by decide +kernel
theorem dX5_callCount_15 : decode cX5_callCount 15 = .ok (.aload_n 0, 1) := by decide +kernel
theorem dX5_callCount_16 : decode cX5_callCount 16 = .ok (.getfield 42, 3) := by decide +kernel
theorem dX5_callCount_19 : decode cX5_callCount 19 = .ok (.iload_n 1, 1) := by decide +kernel
theorem dX5_callCount_20 : decode cX5_callCount 20 = .ok (.iaload, 1) := by decide +kernel
theorem dX5_callCount_21 : decode cX5_callCount 21 = .ok (.iconst (-1), 1) := by decide +kernel
theorem dX5_callCount_22 : decode cX5_callCount 22 = .ok (.if_icmp .ne 7, 3) := by decide +kernel
theorem dX5_callCount_25 : decode cX5_callCount 25 = .ok (.iconst 0, 1) := by decide +kernel
theorem dX5_callCount_26 : decode cX5_callCount 26 = .ok (.goto 4, 3) := by decide +kernel
theorem dX5_callCount_29 : decode cX5_callCount 29 = .ok (.iconst 1, 1) := by decide +kernel
theorem dX5_callCount_30 : decode cX5_callCount 30 = .ok (.iadd, 1) := by decide +kernel
theorem dX5_callCount_31 : decode cX5_callCount 31 = .ok (.ireturn, 1) := by decide +kernel
theorem dX6_init_0 : decode cX6_init 0 = .ok (.aload_n 0, 1) := by decide +kernel
theorem dX6_init_1 : decode cX6_init 1 = .ok (.invokespecial 3, 3) := by decide +kernel
theorem dX6_init_4 : decode cX6_init 4 = .ok (.aload_n 0, 1) := by decide +kernel
theorem dX6_init_5 : decode cX6_init 5 = .ok (.bipush 8, 2) := by decide +kernel
theorem dX6_init_7 : decode cX6_init 7 = .ok (.newarray .int, 2) := by decide +kernel
theorem dX6_init_9 : decode cX6_init 9 = .ok (.putfield 9, 3) := by decide +kernel
theorem dX6_init_12 : decode cX6_init 12 = .ok (.aload_n 0, 1) := by decide +kernel
theorem dX6_init_13 : decode cX6_init 13 = .ok (.bipush 8, 2) := by decide +kernel
theorem dX6_init_15 : decode cX6_init 15 = .ok (.newarray .int, 2) := by decide +kernel
theorem dX6_init_17 : decode cX6_init 17 = .ok (.putfield 15, 3) := by decide +kernel
theorem dX6_init_20 : decode cX6_init 20 = .ok (.aload_n 0, 1) := by decide +kernel
theorem dX6_init_21 : decode cX6_init 21 = .ok (.bipush 8, 2) := by decide +kernel
theorem dX6_init_23 : decode cX6_init 23 = .ok (.newarray .int, 2) := by decide +kernel
theorem dX6_init_25 : decode cX6_init 25 = .ok (.putfield 18, 3) := by decide +kernel
theorem dX6_init_28 : decode cX6_init 28 = .ok (.aload_n 0, 1) := by decide +kernel
theorem dX6_init_29 : decode cX6_init 29 = .ok (.bipush 8, 2) := by decide +kernel
theorem dX6_init_31 : decode cX6_init 31 = .ok (.newarray .int, 2) := by decide +kernel
theorem dX6_init_33 : decode cX6_init 33 = .ok (.putfield 21, 3) := by decide +kernel
theorem dX6_init_36 : decode cX6_init 36 = .ok (.aload_n 0, 1) := by decide +kernel
theorem dX6_init_37 : decode cX6_init 37 = .ok (.bipush 8, 2) := by decide +kernel
theorem dX6_init_39 : decode cX6_init 39 = .ok (.newarray .int, 2) := by decide +kernel
theorem dX6_init_41 : decode cX6_init 41 = .ok (.putfield 24, 3) := by decide +kernel
theorem dX6_init_44 : decode cX6_init 44 = .ok (.aload_n 0, 1) := by decide +kernel
theorem dX6_init_45 : decode cX6_init 45 = .ok (.aload_n 1, 1) := by decide +kernel
theorem dX6_init_46 : decode cX6_init 46 = .ok (.putfield 27, 3) := by decide +kernel
theorem dX6_init_49 : decode cX6_init 49 = .ok (.return_, 1) := by decide +kernel
theorem dX6_has_0 : decode cX6_has 0 = .ok (.iload_n 0, 1) := by decide +kernel
theorem dX6_has_1 : decode cX6_has 1 = .ok (.iload_n 1, 1) := by decide +kernel
theorem dX6_has_2 : decode cX6_has 2 = .ok (.ishr, 1) := by decide +kernel
theorem dX6_has_3 : decode cX6_has 3 = .ok (.iconst 1, 1) := by decide +kernel
theorem dX6_has_4 : decode cX6_has 4 = .ok (.iand, 1) := by decide +kernel
theorem dX6_has_5 : decode cX6_has 5 = .ok (.iconst 1, 1) := by decide +kernel
theorem dX6_has_6 : decode cX6_has 6 = .ok (.if_icmp .ne 7, 3) := by decide +kernel
theorem dX6_has_9 : decode cX6_has 9 = .ok (.iconst 1, 1) := by decide +kernel
theorem dX6_has_10 : decode cX6_has 10 = .ok (.goto 4, 3) := by decide +kernel
theorem dX6_has_13 : decode cX6_has 13 = .ok (.iconst 0, 1) := by decide +kernel
theorem dX6_has_14 : decode cX6_has 14 = .ok (.ireturn, 1) := by decide +kernel
theorem dX6_smallestOf_0 : decode cX6_smallestOf 0 = .ok (.iconst 0, 1) := by decide +kernel
theorem dX6_smallestOf_1 : decode cX6_smallestOf 1 = .ok (.istore_n 1, 1) := by decide +kernel
theorem dX6_smallestOf_2 : decode cX6_smallestOf 2 = .ok (.iload_n 1, 1) := by decide +kernel
theorem dX6_smallestOf_3 : decode cX6_smallestOf 3 = .ok (.bipush 8, 2) := by decide +kernel
theorem dX6_smallestOf_5 : decode cX6_smallestOf 5 = .ok (.if_icmp .ge 19, 3) := by decide +kernel
theorem dX6_smallestOf_8 : decode cX6_smallestOf 8 = .ok (.iload_n 0, 1) := by decide +kernel
theorem dX6_smallestOf_9 : decode cX6_smallestOf 9 = .ok (.iload_n 1, 1) := by decide +kernel
theorem dX6_smallestOf_10 : decode cX6_smallestOf 10 = .ok (.invokestatic 31, 3) := by decide +kernel
theorem dX6_smallestOf_13 : decode cX6_smallestOf 13 = .ok (.ifCond .eq 5, 3) := by decide +kernel
theorem dX6_smallestOf_16 : decode cX6_smallestOf 16 = .ok (.iload_n 1, 1) := by decide +kernel
theorem dX6_smallestOf_17 : decode cX6_smallestOf 17 = .ok (.ireturn, 1) := by decide +kernel
theorem dX6_smallestOf_18 : decode cX6_smallestOf 18 = .ok (.iinc 1 1, 3) := by decide +kernel
theorem dX6_smallestOf_21 : decode cX6_smallestOf 21 = .ok (.goto (-19), 3) := by decide +kernel
theorem dX6_smallestOf_24 : decode cX6_smallestOf 24 = .ok (.iconst (-1), 1) := by decide +kernel
theorem dX6_smallestOf_25 : decode cX6_smallestOf 25 = .ok (.ireturn, 1) := by decide +kernel
theorem dX6_settle_0 : decode cX6_settle 0 = .ok (.aload_n 0, 1) := by decide +kernel
theorem dX6_settle_1 : decode cX6_settle 1 = .ok (.invokevirtual 35, 3) := by decide +kernel
theorem dX6_settle_4 : decode cX6_settle 4 = .ok (.iconst 0, 1) := by decide +kernel
theorem dX6_settle_5 : decode cX6_settle 5 = .ok (.istore_n 1, 1) := by decide +kernel
theorem dX6_settle_6 : decode cX6_settle 6 = .ok (.iload_n 1, 1) := by decide +kernel
theorem dX6_settle_7 : decode cX6_settle 7 = .ok (.aload_n 0, 1) := by decide +kernel
theorem dX6_settle_8 : decode cX6_settle 8 = .ok (.getfield 27, 3) := by decide +kernel
theorem dX6_settle_11 : decode cX6_settle 11 = .ok (.getfield 38, 3) := by decide +kernel
theorem dX6_settle_14 : decode cX6_settle 14 = .ok (.if_icmp .ge 20, 3) := by decide +kernel
theorem dX6_settle_17 : decode cX6_settle 17 = .ok (.aload_n 0, 1) := by decide +kernel
theorem dX6_settle_18 : decode cX6_settle 18 = .ok (.getfield 18, 3) := by decide +kernel
theorem dX6_settle_21 : decode cX6_settle 21 = .ok (.iload_n 1, 1) := by decide +kernel
theorem dX6_settle_22 : decode cX6_settle 22 = .ok (.aload_n 0, 1) := by decide +kernel
theorem dX6_settle_23 : decode cX6_settle 23 = .ok (.iload_n 1, 1) := by decide +kernel
theorem dX6_settle_24 : decode cX6_settle 24 = .ok (.invokevirtual 44, 3) := by decide +kernel
theorem dX6_settle_27 : decode cX6_settle 27 = .ok (.iastore, 1) := by decide +kernel
theorem dX6_settle_28 : decode cX6_settle 28 = .ok (.iinc 1 1, 3) := by decide +kernel
theorem dX6_settle_31 : decode cX6_settle 31 = .ok (.goto (-25), 3) := by decide +kernel
theorem dX6_settle_34 : decode cX6_settle 34 = .ok (.aload_n 0, 1) := by decide +kernel
theorem dX6_settle_35 : decode cX6_settle 35 = .ok (.invokevirtual 48, 3) := by decide +kernel
theorem dX6_settle_38 : decode cX6_settle 38 = .ok (.return_, 1) := by decide +kernel
theorem dX6_settleLeaning_0 : decode cX6_settleLeaning 0 = .ok (.iconst 0, 1) := by decide +kernel
theorem dX6_settleLeaning_1 : decode cX6_settleLeaning 1 = .ok (.istore_n 1, 1) := by decide +kernel
theorem dX6_settleLeaning_2 : decode cX6_settleLeaning 2 = .ok (.iload_n 1, 1) := by decide +kernel
theorem dX6_settleLeaning_3 : decode cX6_settleLeaning 3 = .ok (.aload_n 0, 1) := by decide +kernel
theorem dX6_settleLeaning_4 : decode cX6_settleLeaning 4 = .ok (.getfield 27, 3) := by decide +kernel
theorem dX6_settleLeaning_7 : decode cX6_settleLeaning 7 = .ok (.getfield 38, 3) := by decide +kernel
theorem dX6_settleLeaning_10 : decode cX6_settleLeaning 10 = .ok (.if_icmp .ge 85, 3) := by decide +kernel
theorem dX6_settleLeaning_13 : decode cX6_settleLeaning 13 = .ok (.aload_n 0, 1) := by decide +kernel
theorem dX6_settleLeaning_14 : decode cX6_settleLeaning 14 = .ok (.getfield 9, 3) := by decide +kernel
theorem dX6_settleLeaning_17 : decode cX6_settleLeaning 17 = .ok (.iload_n 1, 1) := by decide +kernel
theorem dX6_settleLeaning_18 : decode cX6_settleLeaning 18 = .ok (.iconst 0, 1) := by decide +kernel
theorem dX6_settleLeaning_19 : decode cX6_settleLeaning 19 = .ok (.iastore, 1) := by decide +kernel
theorem dX6_settleLeaning_20 : decode cX6_settleLeaning 20 = .ok (.iconst 0, 1) := by decide +kernel
theorem dX6_settleLeaning_21 : decode cX6_settleLeaning 21 = .ok (.istore_n 2, 1) := by decide +kernel
theorem dX6_settleLeaning_22 : decode cX6_settleLeaning 22 = .ok (.iload_n 2, 1) := by decide +kernel
theorem dX6_settleLeaning_23 : decode cX6_settleLeaning 23 = .ok (.aload_n 0, 1) := by decide +kernel
theorem dX6_settleLeaning_24 : decode cX6_settleLeaning 24 = .ok (.getfield 27, 3) := by decide +kernel
theorem dX6_settleLeaning_27 : decode cX6_settleLeaning 27 = .ok (.getfield 51, 3) := by decide +kernel
theorem dX6_settleLeaning_30 : decode cX6_settleLeaning 30 = .ok (.iload_n 1, 1) := by decide +kernel
theorem dX6_settleLeaning_31 : decode cX6_settleLeaning 31 = .ok (.iaload, 1) := by decide +kernel
theorem dX6_settleLeaning_32 : decode cX6_settleLeaning 32 = .ok (.if_icmp .ge 45, 3) := by decide +kernel
theorem dX6_settleLeaning_35 : decode cX6_settleLeaning 35 = .ok (.aload_n 0, 1) := by decide +kernel
theorem dX6_settleLeaning_36 : decode cX6_settleLeaning 36 = .ok (.getfield 27, 3) := by decide +kernel
theorem dX6_settleLeaning_39 : decode cX6_settleLeaning 39 = .ok (.iload_n 1, 1) := by decide +kernel
theorem dX6_settleLeaning_40 : decode cX6_settleLeaning 40 = .ok (.iload_n 2, 1) := by decide +kernel
theorem dX6_settleLeaning_41 : decode cX6_settleLeaning 41 = .ok (.invokevirtual 54, 3) := by decide +kernel
theorem dX6_settleLeaning_44 : decode cX6_settleLeaning 44 = .ok (.invokestatic 58, 3) := by decide +kernel
theorem dX6_settleLeaning_47 : decode cX6_settleLeaning 47 = .ok (.istore_n 3, 1) := by decide +kernel
theorem dX6_settleLeaning_48 : decode cX6_settleLeaning 48 = .ok (.iload_n 3, 1) := by decide +kernel
theorem dX6_settleLeaning_49 : decode cX6_settleLeaning 49 = .ok (.aload_n 0, 1) := by decide +kernel
theorem dX6_settleLeaning_50 : decode cX6_settleLeaning 50 = .ok (.getfield 27, 3) := by decide +kernel
theorem dX6_settleLeaning_53 : decode cX6_settleLeaning 53 = .ok (.getfield 38, 3) := by decide +kernel
theorem dX6_settleLeaning_56 : decode cX6_settleLeaning 56 = .ok (.if_icmp .ge 15, 3) := by decide +kernel
theorem dX6_settleLeaning_59 : decode cX6_settleLeaning 59 = .ok (.aload_n 0, 1) := by decide +kernel
theorem dX6_settleLeaning_60 : decode cX6_settleLeaning 60 = .ok (.getfield 9, 3) := by decide +kernel
theorem dX6_settleLeaning_63 : decode cX6_settleLeaning 63 = .ok (.iload_n 1, 1) := by decide +kernel
theorem dX6_settleLeaning_64 : decode cX6_settleLeaning 64 = .ok (.dup2, 1) := by decide +kernel
theorem dX6_settleLeaning_65 : decode cX6_settleLeaning 65 = .ok (.iaload, 1) := by decide +kernel
theorem dX6_settleLeaning_66 : decode cX6_settleLeaning 66 = .ok (.iconst 1, 1) := by decide +kernel
theorem dX6_settleLeaning_67 : decode cX6_settleLeaning 67 = .ok (.iload_n 3, 1) := by decide +kernel
theorem dX6_settleLeaning_68 : decode cX6_settleLeaning 68 = .ok (.ishl, 1) := by decide +kernel
theorem dX6_settleLeaning_69 : decode cX6_settleLeaning 69 = .ok (.ior, 1) := by decide +kernel
theorem dX6_settleLeaning_70 : decode cX6_settleLeaning 70 = .ok (.iastore, 1) := by decide +kernel
theorem dX6_settleLeaning_71 : decode cX6_settleLeaning 71 = .ok (.iinc 2 1, 3) := by decide +kernel
theorem dX6_settleLeaning_74 : decode cX6_settleLeaning 74 = .ok (.goto (-52), 3) := by decide +kernel
theorem dX6_settleLeaning_77 : decode cX6_settleLeaning 77 = .ok (.aload_n 0, 1) := by decide +kernel
theorem dX6_settleLeaning_78 : decode cX6_settleLeaning 78 = .ok (.getfield 15, 3) := by decide +kernel
theorem dX6_settleLeaning_81 : decode cX6_settleLeaning 81 = .ok (.iload_n 1, 1) := by decide +kernel
theorem dX6_settleLeaning_82 : decode cX6_settleLeaning 82 = .ok (.aload_n 0, 1) := by decide +kernel
theorem dX6_settleLeaning_83 : decode cX6_settleLeaning 83 = .ok (.getfield 9, 3) := by decide +kernel
theorem dX6_settleLeaning_86 : decode cX6_settleLeaning 86 = .ok (.iload_n 1, 1) := by decide +kernel
theorem dX6_settleLeaning_87 : decode cX6_settleLeaning 87 = .ok (.iaload, 1) := by decide +kernel
theorem dX6_settleLeaning_88 : decode cX6_settleLeaning 88 = .ok (.iastore, 1) := by decide +kernel
theorem dX6_settleLeaning_89 : decode cX6_settleLeaning 89 = .ok (.iinc 1 1, 3) := by decide +kernel
theorem dX6_settleLeaning_92 : decode cX6_settleLeaning 92 = .ok (.goto (-90), 3) := by decide +kernel
theorem dX6_settleLeaning_95 : decode cX6_settleLeaning 95 = .ok (.iconst 0, 1) := by decide +kernel
theorem dX6_settleLeaning_96 : decode cX6_settleLeaning 96 = .ok (.istore_n 1, 1) := by decide +kernel
theorem dX6_settleLeaning_97 : decode cX6_settleLeaning 97 = .ok (.iload_n 1, 1) := by decide +kernel
theorem dX6_settleLeaning_98 : decode cX6_settleLeaning 98 = .ok (.aload_n 0, 1) := by decide +kernel
theorem dX6_settleLeaning_99 : decode cX6_settleLeaning 99 = .ok (.getfield 27, 3) := by decide +kernel
theorem dX6_settleLeaning_102 : decode cX6_settleLeaning 102 = .ok (.getfield 38, 3) := by decide +kernel
theorem dX6_settleLeaning_105 : decode cX6_settleLeaning 105 = .ok (.if_icmp .ge 56, 3) := by decide +kernel
theorem dX6_settleLeaning_108 : decode cX6_settleLeaning 108 = .ok (.iconst 0, 1) := by decide +kernel
theorem dX6_settleLeaning_109 : decode cX6_settleLeaning 109 = .ok (.istore_n 2, 1) := by decide +kernel
theorem dX6_settleLeaning_110 : decode cX6_settleLeaning 110 = .ok (.iload_n 2, 1) := by decide +kernel
theorem dX6_settleLeaning_111 : decode cX6_settleLeaning 111 = .ok (.aload_n 0, 1) := by decide +kernel
theorem dX6_settleLeaning_112 : decode cX6_settleLeaning 112 = .ok (.getfield 27, 3) := by decide +kernel
theorem dX6_settleLeaning_115 : decode cX6_settleLeaning 115 = .ok (.getfield 38, 3) := by decide +kernel
theorem dX6_settleLeaning_118 : decode cX6_settleLeaning 118 = .ok (.if_icmp .ge 37, 3) := by decide +kernel
theorem dX6_settleLeaning_121 : decode cX6_settleLeaning 121 = .ok (.aload_n 0, 1) := by decide +kernel
theorem dX6_settleLeaning_122 : decode cX6_settleLeaning 122 = .ok (.getfield 15, 3) := by decide +kernel
theorem dX6_settleLeaning_125 : decode cX6_settleLeaning 125 = .ok (.iload_n 2, 1) := by decide +kernel
theorem dX6_settleLeaning_126 : decode cX6_settleLeaning 126 = .ok (.iaload, 1) := by decide +kernel
theorem dX6_settleLeaning_127 : decode cX6_settleLeaning 127 = .ok (.iload_n 1, 1) := by decide +kernel
theorem dX6_settleLeaning_128 : decode cX6_settleLeaning 128 = .ok (.invokestatic 31, 3) := by decide +kernel
theorem dX6_settleLeaning_131 : decode cX6_settleLeaning 131 = .ok (.ifCond .eq 18, 3) := by decide +kernel
theorem dX6_settleLeaning_134 : decode cX6_settleLeaning 134 = .ok (.aload_n 0, 1) := by decide +kernel
theorem dX6_settleLeaning_135 : decode cX6_settleLeaning 135 = .ok (.getfield 15, 3) := by decide +kernel
theorem dX6_settleLeaning_138 : decode cX6_settleLeaning 138 = .ok (.iload_n 2, 1) := by decide +kernel
theorem dX6_settleLeaning_139 : decode cX6_settleLeaning 139 = .ok (.dup2, 1) := by decide +kernel
theorem dX6_settleLeaning_140 : decode cX6_settleLeaning 140 = .ok (.iaload, 1) := by decide +kernel
theorem dX6_settleLeaning_141 : decode cX6_settleLeaning 141 = .ok (.aload_n 0, 1) := by decide +kernel
theorem dX6_settleLeaning_142 : decode cX6_settleLeaning 142 = .ok (.getfield 15, 3) := by decide +kernel
theorem dX6_settleLeaning_145 : decode cX6_settleLeaning 145 = .ok (.iload_n 1, 1) := by decide +kernel
theorem dX6_settleLeaning_146 : decode cX6_settleLeaning 146 = .ok (.iaload, 1) := by decide +kernel
theorem dX6_settleLeaning_147 : decode cX6_settleLeaning 147 = .ok (.ior, 1) := by decide +kernel
theorem dX6_settleLeaning_148 : decode cX6_settleLeaning 148 = .ok (.iastore, 1) := by decide +kernel
theorem dX6_settleLeaning_149 : decode cX6_settleLeaning 149 = .ok (.iinc 2 1, 3) := by decide +kernel
theorem dX6_settleLeaning_152 : decode cX6_settleLeaning 152 = .ok (.goto (-42), 3) := by decide +kernel
theorem dX6_settleLeaning_155 : decode cX6_settleLeaning 155 = .ok (.iinc 1 1, 3) := by decide +kernel
theorem dX6_settleLeaning_158 : decode cX6_settleLeaning 158 = .ok (.goto (-61), 3) := by decide +kernel
theorem dX6_settleLeaning_161 : decode cX6_settleLeaning 161 = .ok (.return_, 1) := by decide +kernel
theorem dX6_ringAround_0 : decode cX6_ringAround 0 = .ok (.iconst 1, 1) := by decide +kernel
theorem dX6_ringAround_1 : decode cX6_ringAround 1 = .ok (.iload_n 1, 1) := by decide +kernel
theorem dX6_ringAround_2 : decode cX6_ringAround 2 = .ok (.ishl, 1) := by decide +kernel
theorem dX6_ringAround_3 : decode cX6_ringAround 3 = .ok (.istore_n 2, 1) := by decide +kernel
theorem dX6_ringAround_4 : decode cX6_ringAround 4 = .ok (.iconst 0, 1) := by decide +kernel
theorem dX6_ringAround_5 : decode cX6_ringAround 5 = .ok (.istore_n 3, 1) := by decide +kernel
theorem dX6_ringAround_6 : decode cX6_ringAround 6 = .ok (.iload_n 3, 1) := by decide +kernel
theorem dX6_ringAround_7 : decode cX6_ringAround 7 = .ok (.aload_n 0, 1) := by decide +kernel
theorem dX6_ringAround_8 : decode cX6_ringAround 8 = .ok (.getfield 27, 3) := by decide +kernel
theorem dX6_ringAround_11 : decode cX6_ringAround 11 = .ok (.getfield 38, 3) := by decide +kernel
theorem dX6_ringAround_14 : decode cX6_ringAround 14 = .ok (.if_icmp .ge 41, 3) := by decide +kernel
theorem dX6_ringAround_17 : decode cX6_ringAround 17 = .ok (.aload_n 0, 1) := by decide +kernel
theorem dX6_ringAround_18 : decode cX6_ringAround 18 = .ok (.getfield 15, 3) := by decide +kernel
theorem dX6_ringAround_21 : decode cX6_ringAround 21 = .ok (.iload_n 1, 1) := by decide +kernel
theorem dX6_ringAround_22 : decode cX6_ringAround 22 = .ok (.iaload, 1) := by decide +kernel
theorem dX6_ringAround_23 : decode cX6_ringAround 23 = .ok (.iload_n 3, 1) := by decide +kernel
theorem dX6_ringAround_24 : decode cX6_ringAround 24 = .ok (.invokestatic 31, 3) := by decide +kernel
theorem dX6_ringAround_27 : decode cX6_ringAround 27 = .ok (.ifCond .eq 22, 3) := by decide +kernel
theorem dX6_ringAround_30 : decode cX6_ringAround 30 = .ok (.aload_n 0, 1) := by decide +kernel
theorem dX6_ringAround_31 : decode cX6_ringAround 31 = .ok (.getfield 15, 3) := by decide +kernel
theorem dX6_ringAround_34 : decode cX6_ringAround 34 = .ok (.iload_n 3, 1) := by decide +kernel
theorem dX6_ringAround_35 : decode cX6_ringAround 35 = .ok (.iaload, 1) := by decide +kernel
theorem dX6_ringAround_36 : decode cX6_ringAround 36 = .ok (.iload_n 1, 1) := by decide +kernel
theorem dX6_ringAround_37 : decode cX6_ringAround 37 = .ok (.invokestatic 31, 3) := by decide +kernel
theorem dX6_ringAround_40 : decode cX6_ringAround 40 = .ok (.ifCond .eq 9, 3) := by decide +kernel
theorem dX6_ringAround_43 : decode cX6_ringAround 43 = .ok (.iload_n 2, 1) := by decide +kernel
theorem dX6_ringAround_44 : decode cX6_ringAround 44 = .ok (.iconst 1, 1) := by decide +kernel
theorem dX6_ringAround_45 : decode cX6_ringAround 45 = .ok (.iload_n 3, 1) := by decide +kernel
theorem dX6_ringAround_46 : decode cX6_ringAround 46 = .ok (.ishl, 1) := by decide +kernel
theorem dX6_ringAround_47 : decode cX6_ringAround 47 = .ok (.ior, 1) := by decide +kernel
theorem dX6_ringAround_48 : decode cX6_ringAround 48 = .ok (.istore_n 2, 1) := by decide +kernel
theorem dX6_ringAround_49 : decode cX6_ringAround 49 = .ok (.iinc 3 1, 3) := by decide +kernel
theorem dX6_ringAround_52 : decode cX6_ringAround 52 = .ok (.goto (-46), 3) := by decide +kernel
theorem dX6_ringAround_55 : decode cX6_ringAround 55 = .ok (.iload_n 2, 1) := by decide +kernel
theorem dX6_ringAround_56 : decode cX6_ringAround 56 = .ok (.ireturn, 1) := by decide +kernel
theorem dX6_settleOrder_0 : decode cX6_settleOrder 0 = .ok (.aload_n 0, 1) := by decide +kernel
theorem dX6_settleOrder_1 : decode cX6_settleOrder 1 = .ok (.iconst 0, 1) := by decide +kernel
theorem dX6_settleOrder_2 : decode cX6_settleOrder 2 = .ok (.putfield 63, 3) := by decide +kernel
theorem dX6_settleOrder_5 : decode cX6_settleOrder 5 = .ok (.iconst 0, 1) := by decide +kernel
theorem dX6_settleOrder_6 : decode cX6_settleOrder 6 = .ok (.istore_n 1, 1) := by decide +kernel
theorem dX6_settleOrder_7 : decode cX6_settleOrder 7 = .ok (.iconst 0, 1) := by decide +kernel
theorem dX6_settleOrder_8 : decode cX6_settleOrder 8 = .ok (.istore_n 2, 1) := by decide +kernel
theorem dX6_settleOrder_9 : decode cX6_settleOrder 9 = .ok (.iload_n 2, 1) := by decide +kernel
theorem dX6_settleOrder_10 : decode cX6_settleOrder 10 = .ok (.aload_n 0, 1) := by decide +kernel
theorem dX6_settleOrder_11 : decode cX6_settleOrder 11 = .ok (.getfield 27, 3) := by decide +kernel
theorem dX6_settleOrder_14 : decode cX6_settleOrder 14 = .ok (.getfield 38, 3) := by decide +kernel
theorem dX6_settleOrder_17 : decode cX6_settleOrder 17 = .ok (.if_icmp .ge 68, 3) := by decide +kernel
theorem dX6_settleOrder_20 : decode cX6_settleOrder 20 = .ok (.aload_n 0, 1) := by decide +kernel
theorem dX6_settleOrder_21 : decode cX6_settleOrder 21 = .ok (.iload_n 1, 1) := by decide +kernel
theorem dX6_settleOrder_22 : decode cX6_settleOrder 22 = .ok (.invokevirtual 66, 3) := by decide +kernel
theorem dX6_settleOrder_25 : decode cX6_settleOrder 25 = .ok (.istore_n 3, 1) := by decide +kernel
theorem dX6_settleOrder_26 : decode cX6_settleOrder 26 = .ok (.iload_n 3, 1) := by decide +kernel
theorem dX6_settleOrder_27 : decode cX6_settleOrder 27 = .ok (.iconst (-1), 1) := by decide +kernel
theorem dX6_settleOrder_28 : decode cX6_settleOrder 28 = .ok (.if_icmp .eq 51, 3) := by decide +kernel
theorem dX6_settleOrder_31 : decode cX6_settleOrder 31 = .ok (.aload_n 0, 1) := by decide +kernel
theorem dX6_settleOrder_32 : decode cX6_settleOrder 32 = .ok (.getfield 24, 3) := by decide +kernel
theorem dX6_settleOrder_35 : decode cX6_settleOrder 35 = .ok (.aload_n 0, 1) := by decide +kernel
theorem dX6_settleOrder_36 : decode cX6_settleOrder 36 = .ok (.getfield 63, 3) := by decide +kernel
theorem dX6_settleOrder_39 : decode cX6_settleOrder 39 = .ok (.aload_n 0, 1) := by decide +kernel
theorem dX6_settleOrder_40 : decode cX6_settleOrder 40 = .ok (.getfield 18, 3) := by decide +kernel
theorem dX6_settleOrder_43 : decode cX6_settleOrder 43 = .ok (.iload_n 3, 1) := by decide +kernel
theorem dX6_settleOrder_44 : decode cX6_settleOrder 44 = .ok (.iaload, 1) := by decide +kernel
theorem dX6_settleOrder_45 : decode cX6_settleOrder 45 = .ok (.iastore, 1) := by decide +kernel
theorem dX6_settleOrder_46 : decode cX6_settleOrder 46 = .ok (.aload_n 0, 1) := by decide +kernel
theorem dX6_settleOrder_47 : decode cX6_settleOrder 47 = .ok (.aload_n 0, 1) := by decide +kernel
theorem dX6_settleOrder_48 : decode cX6_settleOrder 48 = .ok (.getfield 18, 3) := by decide +kernel
theorem dX6_settleOrder_51 : decode cX6_settleOrder 51 = .ok (.iload_n 3, 1) := by decide +kernel
theorem dX6_settleOrder_52 : decode cX6_settleOrder 52 = .ok (.iaload, 1) := by decide +kernel
theorem dX6_settleOrder_53 : decode cX6_settleOrder 53 = .ok (.aload_n 0, 1) := by decide +kernel
theorem dX6_settleOrder_54 : decode cX6_settleOrder 54 = .ok (.getfield 63, 3) := by decide +kernel
theorem dX6_settleOrder_57 : decode cX6_settleOrder 57 = .ok (.invokevirtual 69, 3) := by decide +kernel
theorem dX6_settleOrder_60 : decode cX6_settleOrder 60 = .ok (.iload_n 1, 1) := by decide +kernel
theorem dX6_settleOrder_61 : decode cX6_settleOrder 61 = .ok (.aload_n 0, 1) := by decide +kernel
theorem dX6_settleOrder_62 : decode cX6_settleOrder 62 = .ok (.getfield 18, 3) := by decide +kernel
theorem dX6_settleOrder_65 : decode cX6_settleOrder 65 = .ok (.iload_n 3, 1) := by decide +kernel
theorem dX6_settleOrder_66 : decode cX6_settleOrder 66 = .ok (.iaload, 1) := by decide +kernel
theorem dX6_settleOrder_67 : decode cX6_settleOrder 67 = .ok (.ior, 1) := by decide +kernel
theorem dX6_settleOrder_68 : decode cX6_settleOrder 68 = .ok (.istore_n 1, 1) := by decide +kernel
theorem dX6_settleOrder_69 : decode cX6_settleOrder 69 = .ok (.aload_n 0, 1) := by decide +kernel
theorem dX6_settleOrder_70 : decode cX6_settleOrder 70 = .ok (.dup, 1) := by decide +kernel
theorem dX6_settleOrder_71 : decode cX6_settleOrder 71 = .ok (.getfield 63, 3) := by decide +kernel
theorem dX6_settleOrder_74 : decode cX6_settleOrder 74 = .ok (.iconst 1, 1) := by decide +kernel
theorem dX6_settleOrder_75 : decode cX6_settleOrder 75 = .ok (.iadd, 1) := by decide +kernel
theorem dX6_settleOrder_76 : decode cX6_settleOrder 76 = .ok (.putfield 63, 3) := by decide +kernel
theorem dX6_settleOrder_79 : decode cX6_settleOrder 79 = .ok (.iinc 2 1, 3) := by decide +kernel
theorem dX6_settleOrder_82 : decode cX6_settleOrder 82 = .ok (.goto (-73), 3) := by decide +kernel
theorem dX6_settleOrder_85 : decode cX6_settleOrder 85 = .ok (.return_, 1) := by decide +kernel
theorem dX6_nextBehind_0 : decode cX6_nextBehind 0 = .ok (.iconst 0, 1) := by decide +kernel
theorem dX6_nextBehind_1 : decode cX6_nextBehind 1 = .ok (.istore_n 2, 1) := by decide +kernel
theorem dX6_nextBehind_2 : decode cX6_nextBehind 2 = .ok (.iload_n 2, 1) := by decide +kernel
theorem dX6_nextBehind_3 : decode cX6_nextBehind 3 = .ok (.aload_n 0, 1) := by decide +kernel
theorem dX6_nextBehind_4 : decode cX6_nextBehind 4 = .ok (.getfield 27, 3) := by decide +kernel
theorem dX6_nextBehind_7 : decode cX6_nextBehind 7 = .ok (.getfield 38, 3) := by decide +kernel
theorem dX6_nextBehind_10 : decode cX6_nextBehind 10 = .ok (.if_icmp .ge 43, 3) := by decide +kernel
theorem dX6_nextBehind_13 : decode cX6_nextBehind 13 = .ok (.aload_n 0, 1) := by decide +kernel
theorem dX6_nextBehind_14 : decode cX6_nextBehind 14 = .ok (.getfield 18, 3) := by decide +kernel
theorem dX6_nextBehind_17 : decode cX6_nextBehind 17 = .ok (.iload_n 2, 1) := by decide +kernel
theorem dX6_nextBehind_18 : decode cX6_nextBehind 18 = .ok (.iaload, 1) := by decide +kernel
theorem dX6_nextBehind_19 : decode cX6_nextBehind 19 = .ok (.istore_n 3, 1) := by decide +kernel
theorem dX6_nextBehind_20 : decode cX6_nextBehind 20 = .ok (.iload_n 1, 1) := by decide +kernel
theorem dX6_nextBehind_21 : decode cX6_nextBehind 21 = .ok (.iload_n 2, 1) := by decide +kernel
theorem dX6_nextBehind_22 : decode cX6_nextBehind 22 = .ok (.invokestatic 31, 3) := by decide +kernel
theorem dX6_nextBehind_25 : decode cX6_nextBehind 25 = .ok (.ifCond .ne 22, 3) := by decide +kernel
theorem dX6_nextBehind_28 : decode cX6_nextBehind 28 = .ok (.aload_n 0, 1) := by decide +kernel
theorem dX6_nextBehind_29 : decode cX6_nextBehind 29 = .ok (.getfield 15, 3) := by decide +kernel
theorem dX6_nextBehind_32 : decode cX6_nextBehind 32 = .ok (.iload_n 2, 1) := by decide +kernel
theorem dX6_nextBehind_33 : decode cX6_nextBehind 33 = .ok (.iaload, 1) := by decide +kernel
theorem dX6_nextBehind_34 : decode cX6_nextBehind 34 = .ok (.iload_n 3, 1) := by decide +kernel
theorem dX6_nextBehind_35 : decode cX6_nextBehind 35 = .ok (.iconst (-1), 1) := by decide +kernel
theorem dX6_nextBehind_36 : decode cX6_nextBehind 36 = .ok (.ixor, 1) := by decide +kernel
theorem dX6_nextBehind_37 : decode cX6_nextBehind 37 = .ok (.iand, 1) := by decide +kernel
theorem dX6_nextBehind_38 : decode cX6_nextBehind 38 = .ok (.iload_n 1, 1) := by decide +kernel
theorem dX6_nextBehind_39 : decode cX6_nextBehind 39 = .ok (.iconst (-1), 1) := by decide +kernel
theorem dX6_nextBehind_40 : decode cX6_nextBehind 40 = .ok (.ixor, 1) := by decide +kernel
theorem dX6_nextBehind_41 : decode cX6_nextBehind 41 = .ok (.iand, 1) := by decide +kernel
theorem dX6_nextBehind_42 : decode cX6_nextBehind 42 = .ok (.ifCond .ne 5, 3) := by decide +kernel
theorem dX6_nextBehind_45 : decode cX6_nextBehind 45 = .ok (.iload_n 2, 1) := by decide +kernel
theorem dX6_nextBehind_46 : decode cX6_nextBehind 46 = .ok (.ireturn, 1) := by decide +kernel
theorem dX6_nextBehind_47 : decode cX6_nextBehind 47 = .ok (.iinc 2 1, 3) := by decide +kernel
theorem dX6_nextBehind_50 : decode cX6_nextBehind 50 = .ok (.goto (-48), 3) := by decide +kernel
theorem dX6_nextBehind_53 : decode cX6_nextBehind 53 = .ok (.iconst (-1), 1) := by decide +kernel
theorem dX6_nextBehind_54 : decode cX6_nextBehind 54 = .ok (.ireturn, 1) := by decide +kernel
theorem dX6_placeModules_0 : decode cX6_placeModules 0 = .ok (.iconst 0, 1) := by decide +kernel
theorem dX6_placeModules_1 : decode cX6_placeModules 1 = .ok (.istore_n 3, 1) := by decide +kernel
theorem dX6_placeModules_2 : decode cX6_placeModules 2 = .ok (.iload_n 3, 1) := by decide +kernel
theorem dX6_placeModules_3 : decode cX6_placeModules 3 = .ok (.aload_n 0, 1) := by decide +kernel
theorem dX6_placeModules_4 : decode cX6_placeModules 4 = .ok (.getfield 27, 3) := by decide +kernel
theorem dX6_placeModules_7 : decode cX6_placeModules 7 = .ok (.getfield 38, 3) := by decide +kernel
theorem dX6_placeModules_10 : decode cX6_placeModules 10 = .ok (.if_icmp .ge 24, 3) := by decide +kernel
theorem dX6_placeModules_13 : decode cX6_placeModules 13 = .ok (.iload_n 1, 1) := by decide +kernel
theorem dX6_placeModules_14 : decode cX6_placeModules 14 = .ok (.iload_n 3, 1) := by decide +kernel
theorem dX6_placeModules_15 : decode cX6_placeModules 15 = .ok (.invokestatic 31, 3) := by decide +kernel
theorem dX6_placeModules_18 : decode cX6_placeModules 18 = .ok (.ifCond .eq 10, 3) := by decide +kernel
theorem dX6_placeModules_21 : decode cX6_placeModules 21 = .ok (.aload_n 0, 1) := by decide +kernel
theorem dX6_placeModules_22 : decode cX6_placeModules 22 = .ok (.getfield 21, 3) := by decide +kernel
theorem dX6_placeModules_25 : decode cX6_placeModules 25 = .ok (.iload_n 3, 1) := by decide +kernel
theorem dX6_placeModules_26 : decode cX6_placeModules 26 = .ok (.iload_n 2, 1) := by decide +kernel
theorem dX6_placeModules_27 : decode cX6_placeModules 27 = .ok (.iastore, 1) := by decide +kernel
theorem dX6_placeModules_28 : decode cX6_placeModules 28 = .ok (.iinc 3 1, 3) := by decide +kernel
theorem dX6_placeModules_31 : decode cX6_placeModules 31 = .ok (.goto (-29), 3) := by decide +kernel
theorem dX6_placeModules_34 : decode cX6_placeModules 34 = .ok (.return_, 1) := by decide +kernel
theorem dX7_init_0 : decode cX7_init 0 = .ok (.aload_n 0, 1) := by decide +kernel
theorem dX7_init_1 : decode cX7_init 1 = .ok (.invokespecial 1, 3) := by decide +kernel
end
section
theorem dX7_init_4 : decode cX7_init 4 = .ok (.aload_n 0, 1) := by decide +kernel
theorem dX7_init_5 : decode cX7_init 5 = .ok (.iload_n 1, 1) := by decide +kernel
theorem dX7_init_6 : decode cX7_init 6 = .ok (.anewarray 7, 3) := by decide +kernel
theorem dX7_init_9 : decode cX7_init 9 = .ok (.putfield 9, 3) := by decide +kernel
theorem dX7_init_12 : decode cX7_init 12 = .ok (.return_, 1) := by decide +kernel
theorem dX7_holds_0 : decode cX7_holds 0 = .ok (.iconst 0, 1) := by decide +kernel
theorem dX7_holds_1 : decode cX7_holds 1 = .ok (.istore_n 2, 1) := by decide +kernel
theorem dX7_holds_2 : decode cX7_holds 2 = .ok (.iload_n 2, 1) := by decide +kernel
theorem dX7_holds_3 : decode cX7_holds 3 = .ok (.aload_n 0, 1) := by decide +kernel
theorem dX7_holds_4 : decode cX7_holds 4 = .ok (.getfield 15, 3) := by decide +kernel
theorem dX7_holds_7 : decode cX7_holds 7 = .ok (.if_icmp .ge 21, 3) := by decide +kernel
theorem dX7_holds_10 : decode cX7_holds 10 = .ok (.aload_n 0, 1) := by decide +kernel
theorem dX7_holds_11 : decode cX7_holds 11 = .ok (.getfield 9, 3) := by decide +kernel
theorem dX7_holds_14 : decode cX7_holds 14 = .ok (.iload_n 2, 1) := by decide +kernel
theorem dX7_holds_15 : decode cX7_holds 15 = .ok (.aaload, 1) := by decide +kernel
theorem dX7_holds_16 : decode cX7_holds 16 = .ok (.aload_n 1, 1) := by decide +kernel
theorem dX7_holds_17 : decode cX7_holds 17 = .ok (.if_acmp .ne 5, 3) := by decide +kernel
theorem dX7_holds_20 : decode cX7_holds 20 = .ok (.iconst 1, 1) := by decide +kernel
theorem dX7_holds_21 : decode cX7_holds 21 = .ok (.ireturn, 1) := by decide +kernel
theorem dX7_holds_22 : decode cX7_holds 22 = .ok (.iinc 2 1, 3) := by decide +kernel
theorem dX7_holds_25 : decode cX7_holds 25 = .ok (.goto (-23), 3) := by decide +kernel
theorem dX7_holds_28 : decode cX7_holds 28 = .ok (.iconst 0, 1) := by decide +kernel
theorem dX7_holds_29 : decode cX7_holds 29 = .ok (.ireturn, 1) := by decide +kernel
theorem dX7_put_0 : decode cX7_put 0 = .ok (.aload_n 0, 1) := by decide +kernel
theorem dX7_put_1 : decode cX7_put 1 = .ok (.getfield 9, 3) := by decide +kernel
theorem dX7_put_4 : decode cX7_put 4 = .ok (.arraylength, 1) := by decide +kernel
theorem dX7_put_5 : decode cX7_put 5 = .ok (.ifCond .ne 4, 3) := by decide +kernel
theorem dX7_put_8 : decode cX7_put 8 = .ok (.return_, 1) := by decide +kernel
theorem dX7_put_9 : decode cX7_put 9 = .ok (.aload_n 0, 1) := by decide +kernel
theorem dX7_put_10 : decode cX7_put 10 = .ok (.getfield 15, 3) := by decide +kernel
theorem dX7_put_13 : decode cX7_put 13 = .ok (.aload_n 0, 1) := by decide +kernel
theorem dX7_put_14 : decode cX7_put 14 = .ok (.getfield 9, 3) := by decide +kernel
theorem dX7_put_17 : decode cX7_put 17 = .ok (.arraylength, 1) := by decide +kernel
theorem dX7_put_18 : decode cX7_put 18 = .ok (.if_icmp .ne 8, 3) := by decide +kernel
theorem dX7_put_21 : decode cX7_put 21 = .ok (.aload_n 0, 1) := by decide +kernel
theorem dX7_put_22 : decode cX7_put 22 = .ok (.iconst 0, 1) := by decide +kernel
theorem dX7_put_23 : decode cX7_put 23 = .ok (.invokevirtual 19, 3) := by decide +kernel
theorem dX7_put_26 : decode cX7_put 26 = .ok (.aload_n 0, 1) := by decide +kernel
theorem dX7_put_27 : decode cX7_put 27 = .ok (.getfield 9, 3) := by decide +kernel
theorem dX7_put_30 : decode cX7_put 30 = .ok (.aload_n 0, 1) := by decide +kernel
theorem dX7_put_31 : decode cX7_put 31 = .ok (.getfield 15, 3) := by decide +kernel
theorem dX7_put_34 : decode cX7_put 34 = .ok (.aload_n 1, 1) := by decide +kernel
theorem dX7_put_35 : decode cX7_put 35 = .ok (.aastore, 1) := by decide +kernel
theorem dX7_put_36 : decode cX7_put 36 = .ok (.aload_n 0, 1) := by decide +kernel
theorem dX7_put_37 : decode cX7_put 37 = .ok (.dup, 1) := by decide +kernel
theorem dX7_put_38 : decode cX7_put 38 = .ok (.getfield 15, 3) := by decide +kernel
theorem dX7_put_41 : decode cX7_put 41 = .ok (.iconst 1, 1) := by decide +kernel
theorem dX7_put_42 : decode cX7_put 42 = .ok (.iadd, 1) := by decide +kernel
theorem dX7_put_43 : decode cX7_put 43 = .ok (.putfield 15, 3) := by decide +kernel
theorem dX7_put_46 : decode cX7_put 46 = .ok (.return_, 1) := by decide +kernel
theorem dX7_makeNewest_0 : decode cX7_makeNewest 0 = .ok (.aload_n 0, 1) := by decide +kernel
theorem dX7_makeNewest_1 : decode cX7_makeNewest 1 = .ok (.getfield 9, 3) := by decide +kernel
theorem dX7_makeNewest_4 : decode cX7_makeNewest 4 = .ok (.iload_n 1, 1) := by decide +kernel
theorem dX7_makeNewest_5 : decode cX7_makeNewest 5 = .ok (.aaload, 1) := by decide +kernel
theorem dX7_makeNewest_6 : decode cX7_makeNewest 6 = .ok (.astore_n 2, 1) := by decide +kernel
theorem dX7_makeNewest_7 : decode cX7_makeNewest 7 = .ok (.aload_n 0, 1) := by decide +kernel
theorem dX7_makeNewest_8 : decode cX7_makeNewest 8 = .ok (.iload_n 1, 1) := by decide +kernel
theorem dX7_makeNewest_9 : decode cX7_makeNewest 9 = .ok (.invokevirtual 19, 3) := by decide +kernel
theorem dX7_makeNewest_12 : decode cX7_makeNewest 12 = .ok (.aload_n 0, 1) := by decide +kernel
theorem dX7_makeNewest_13 : decode cX7_makeNewest 13 = .ok (.aload_n 2, 1) := by decide +kernel
theorem dX7_makeNewest_14 : decode cX7_makeNewest 14 = .ok (.invokevirtual 23, 3) := by decide +kernel
theorem dX7_makeNewest_17 : decode cX7_makeNewest 17 = .ok (.return_, 1) := by decide +kernel
theorem dX7_takeOut_0 : decode cX7_takeOut 0 = .ok (.aload_n 0, 1) := by decide +kernel
theorem dX7_takeOut_1 : decode cX7_takeOut 1 = .ok (.dup, 1) := by decide +kernel
theorem dX7_takeOut_2 : decode cX7_takeOut 2 = .ok (.getfield 15, 3) := by decide +kernel
theorem dX7_takeOut_5 : decode cX7_takeOut 5 = .ok (.iconst 1, 1) := by decide +kernel
theorem dX7_takeOut_6 : decode cX7_takeOut 6 = .ok (.isub, 1) := by decide +kernel
theorem dX7_takeOut_7 : decode cX7_takeOut 7 = .ok (.putfield 15, 3) := by decide +kernel
theorem dX7_takeOut_10 : decode cX7_takeOut 10 = .ok (.iload_n 1, 1) := by decide +kernel
theorem dX7_takeOut_11 : decode cX7_takeOut 11 = .ok (.istore_n 2, 1) := by decide +kernel
theorem dX7_takeOut_12 : decode cX7_takeOut 12 = .ok (.iload_n 2, 1) := by decide +kernel
theorem dX7_takeOut_13 : decode cX7_takeOut 13 = .ok (.aload_n 0, 1) := by decide +kernel
theorem dX7_takeOut_14 : decode cX7_takeOut 14 = .ok (.getfield 15, 3) := by decide +kernel
theorem dX7_takeOut_17 : decode cX7_takeOut 17 = .ok (.if_icmp .ge 23, 3) := by decide +kernel
theorem dX7_takeOut_20 : decode cX7_takeOut 20 = .ok (.aload_n 0, 1) := by decide +kernel
theorem dX7_takeOut_21 : decode cX7_takeOut 21 = .ok (.getfield 9, 3) := by decide +kernel
theorem dX7_takeOut_24 : decode cX7_takeOut 24 = .ok (.iload_n 2, 1) := by decide +kernel
theorem dX7_takeOut_25 : decode cX7_takeOut 25 = .ok (.aload_n 0, 1) := by decide +kernel
theorem dX7_takeOut_26 : decode cX7_takeOut 26 = .ok (.getfield 9, 3) := by decide +kernel
theorem dX7_takeOut_29 : decode cX7_takeOut 29 = .ok (.iload_n 2, 1) := by decide +kernel
theorem dX7_takeOut_30 : decode cX7_takeOut 30 = .ok (.iconst 1, 1) := by decide +kernel
theorem dX7_takeOut_31 : decode cX7_takeOut 31 = .ok (.iadd, 1) := by decide +kernel
theorem dX7_takeOut_32 : decode cX7_takeOut 32 = .ok (.aaload, 1) := by decide +kernel
theorem dX7_takeOut_33 : decode cX7_takeOut 33 = .ok (.aastore, 1) := by decide +kernel
theorem dX7_takeOut_34 : decode cX7_takeOut 34 = .ok (.iinc 2 1, 3) := by decide +kernel
theorem dX7_takeOut_37 : decode cX7_takeOut 37 = .ok (.goto (-25), 3) := by decide +kernel
theorem dX7_takeOut_40 : decode cX7_takeOut 40 = .ok (.return_, 1) := by decide +kernel
theorem dX8_init_0 : decode cX8_init 0 = .ok (.aload_n 0, 1) := by decide +kernel
theorem dX8_init_1 : decode cX8_init 1 = .ok (.invokespecial 3, 3) := by decide +kernel
theorem dX8_init_4 : decode cX8_init 4 = .ok (.aload_n 0, 1) := by decide +kernel
theorem dX8_init_5 : decode cX8_init 5 = .ok (.sipush 128, 3) := by decide +kernel
theorem dX8_init_8 : decode cX8_init 8 = .ok (.newarray .int, 2) := by decide +kernel
theorem dX8_init_10 : decode cX8_init 10 = .ok (.putfield 9, 3) := by decide +kernel
theorem dX8_init_13 : decode cX8_init 13 = .ok (.aload_n 0, 1) := by decide +kernel
theorem dX8_init_14 : decode cX8_init 14 = .ok (.bipush 40, 2) := by decide +kernel
theorem dX8_init_16 : decode cX8_init 16 = .ok (.newarray .int, 2) := by decide +kernel
theorem dX8_init_18 : decode cX8_init 18 = .ok (.putfield 15, 3) := by decide +kernel
theorem dX8_init_21 : decode cX8_init 21 = .ok (.aload_n 0, 1) := by decide +kernel
theorem dX8_init_22 : decode cX8_init 22 = .ok (.bipush 8, 2) := by decide +kernel
theorem dX8_init_24 : decode cX8_init 24 = .ok (.newarray .int, 2) := by decide +kernel
theorem dX8_init_26 : decode cX8_init 26 = .ok (.putfield 18, 3) := by decide +kernel
theorem dX8_init_29 : decode cX8_init 29 = .ok (.return_, 1) := by decide +kernel
theorem dX8_isDeclared_0 : decode cX8_isDeclared 0 = .ok (.aload_n 0, 1) := by decide +kernel
theorem dX8_isDeclared_1 : decode cX8_isDeclared 1 = .ok (.getfield 9, 3) := by decide +kernel
theorem dX8_isDeclared_4 : decode cX8_isDeclared 4 = .ok (.iload_n 1, 1) := by decide +kernel
theorem dX8_isDeclared_5 : decode cX8_isDeclared 5 = .ok (.iaload, 1) := by decide +kernel
theorem dX8_isDeclared_6 : decode cX8_isDeclared 6 = .ok (.ifCond .eq 7, 3) := by decide +kernel
theorem dX8_isDeclared_9 : decode cX8_isDeclared 9 = .ok (.iconst 1, 1) := by decide +kernel
theorem dX8_isDeclared_10 : decode cX8_isDeclared 10 = .ok (.goto 4, 3) := by decide +kernel
theorem dX8_isDeclared_13 : decode cX8_isDeclared 13 = .ok (.iconst 0, 1) := by decide +kernel
theorem dX8_isDeclared_14 : decode cX8_isDeclared 14 = .ok (.ireturn, 1) := by decide +kernel
theorem dX8_declarationsOf_0 : decode cX8_declarationsOf 0 = .ok (.iconst 0, 1) := by decide +kernel
theorem dX8_declarationsOf_1 : decode cX8_declarationsOf 1 = .ok (.istore_n 2, 1) := by decide +kernel
theorem dX8_declarationsOf_2 : decode cX8_declarationsOf 2 = .ok (.iconst 0, 1) := by decide +kernel
theorem dX8_declarationsOf_3 : decode cX8_declarationsOf 3 = .ok (.istore_n 3, 1) := by decide +kernel
theorem dX8_declarationsOf_4 : decode cX8_declarationsOf 4 = .ok (.iload_n 3, 1) := by decide +kernel
theorem dX8_declarationsOf_5 : decode cX8_declarationsOf 5 = .ok (.bipush 16, 2) := by decide +kernel
theorem dX8_declarationsOf_7 : decode cX8_declarationsOf 7 = .ok (.if_icmp .ge 25, 3) := by decide +kernel
theorem dX8_declarationsOf_10 : decode cX8_declarationsOf 10 = .ok (.aload_n 0, 1) := by decide +kernel
theorem dX8_declarationsOf_11 : decode cX8_declarationsOf 11 = .ok (.iload_n 1, 1) := by decide +kernel
theorem dX8_declarationsOf_12 : decode cX8_declarationsOf 12 = .ok (.bipush 16, 2) := by decide +kernel
theorem dX8_declarationsOf_14 : decode cX8_declarationsOf 14 = .ok (.imul, 1) := by decide +kernel
theorem dX8_declarationsOf_15 : decode cX8_declarationsOf 15 = .ok (.iload_n 3, 1) := by decide +kernel
theorem dX8_declarationsOf_16 : decode cX8_declarationsOf 16 = .ok (.iadd, 1) := by decide +kernel
theorem dX8_declarationsOf_17 : decode cX8_declarationsOf 17 = .ok (.invokevirtual 21, 3) := by decide +kernel
theorem dX8_declarationsOf_20 : decode cX8_declarationsOf 20 = .ok (.ifCond .eq 6, 3) := by decide +kernel
theorem dX8_declarationsOf_23 : decode cX8_declarationsOf 23 = .ok (.iinc 2 1, 3) := by decide +kernel
theorem dX8_declarationsOf_26 : decode cX8_declarationsOf 26 = .ok (.iinc 3 1, 3) := by decide +kernel
theorem dX8_declarationsOf_29 : decode cX8_declarationsOf 29 = .ok (.goto (-25), 3) := by decide +kernel
theorem dX8_declarationsOf_32 : decode cX8_declarationsOf 32 = .ok (.iload_n 2, 1) := by decide +kernel
theorem dX8_declarationsOf_33 : decode cX8_declarationsOf 33 = .ok (.ireturn, 1) := by decide +kernel
theorem dX8_allDeclarations_0 : decode cX8_allDeclarations 0 = .ok (.iconst 0, 1) := by decide +kernel
theorem dX8_allDeclarations_1 : decode cX8_allDeclarations 1 = .ok (.istore_n 1, 1) := by decide +kernel
theorem dX8_allDeclarations_2 : decode cX8_allDeclarations 2 = .ok (.iconst 0, 1) := by decide +kernel
theorem dX8_allDeclarations_3 : decode cX8_allDeclarations 3 = .ok (.istore_n 2, 1) := by decide +kernel
theorem dX8_allDeclarations_4 : decode cX8_allDeclarations 4 = .ok (.iload_n 2, 1) := by decide +kernel
theorem dX8_allDeclarations_5 : decode cX8_allDeclarations 5 = .ok (.aload_n 0, 1) := by decide +kernel
theorem dX8_allDeclarations_6 : decode cX8_allDeclarations 6 = .ok (.getfield 25, 3) := by decide +kernel
theorem dX8_allDeclarations_9 : decode cX8_allDeclarations 9 = .ok (.if_icmp .ge 17, 3) := by decide +kernel
theorem dX8_allDeclarations_12 : decode cX8_allDeclarations 12 = .ok (.iload_n 1, 1) := by decide +kernel
theorem dX8_allDeclarations_13 : decode cX8_allDeclarations 13 = .ok (.aload_n 0, 1) := by decide +kernel
theorem dX8_allDeclarations_14 : decode cX8_allDeclarations 14 = .ok (.iload_n 2, 1) := by decide +kernel
theorem dX8_allDeclarations_15 : decode cX8_allDeclarations 15 = .ok (.invokevirtual 29, 3) := by decide +kernel
theorem dX8_allDeclarations_18 : decode cX8_allDeclarations 18 = .ok (.iadd, 1) := by decide +kernel
theorem dX8_allDeclarations_19 : decode cX8_allDeclarations 19 = .ok (.istore_n 1, 1) := by decide +kernel
theorem dX8_allDeclarations_20 : decode cX8_allDeclarations 20 = .ok (.iinc 2 1, 3) := by decide +kernel
theorem dX8_allDeclarations_23 : decode cX8_allDeclarations 23 = .ok (.goto (-19), 3) := by decide +kernel
theorem dX8_allDeclarations_26 : decode cX8_allDeclarations 26 = .ok (.iload_n 1, 1) := by decide +kernel
theorem dX8_allDeclarations_27 : decode cX8_allDeclarations 27 = .ok (.ireturn, 1) := by decide +kernel
theorem dX8_allImports_0 : decode cX8_allImports 0 = .ok (.iconst 0, 1) := by decide +kernel
theorem dX8_allImports_1 : decode cX8_allImports 1 = .ok (.istore_n 1, 1) := by decide +kernel
theorem dX8_allImports_2 : decode cX8_allImports 2 = .ok (.iconst 0, 1) := by decide +kernel
theorem dX8_allImports_3 : decode cX8_allImports 3 = .ok (.istore_n 2, 1) := by decide +kernel
theorem dX8_allImports_4 : decode cX8_allImports 4 = .ok (.iload_n 2, 1) := by decide +kernel
theorem dX8_allImports_5 : decode cX8_allImports 5 = .ok (.aload_n 0, 1) := by decide +kernel
theorem dX8_allImports_6 : decode cX8_allImports 6 = .ok (.getfield 25, 3) := by decide +kernel
theorem dX8_allImports_9 : decode cX8_allImports 9 = .ok (.if_icmp .ge 18, 3) := by decide +kernel
theorem dX8_allImports_12 : decode cX8_allImports 12 = .ok (.iload_n 1, 1) := by decide +kernel
theorem dX8_allImports_13 : decode cX8_allImports 13 = .ok (.aload_n 0, 1) := by decide +kernel
theorem dX8_allImports_14 : decode cX8_allImports 14 = .ok (.getfield 18, 3) := by decide +kernel
theorem dX8_allImports_17 : decode cX8_allImports 17 = .ok (.iload_n 2, 1) := by decide +kernel
theorem dX8_allImports_18 : decode cX8_allImports 18 = .ok (.iaload, 1) := by decide +kernel
theorem dX8_allImports_19 : decode cX8_allImports 19 = .ok (.iadd, 1) := by decide +kernel
theorem dX8_allImports_20 : decode cX8_allImports 20 = .ok (.istore_n 1, 1) := by decide +kernel
theorem dX8_allImports_21 : decode cX8_allImports 21 = .ok (.iinc 2 1, 3) := by decide +kernel
theorem dX8_allImports_24 : decode cX8_allImports 24 = .ok (.goto (-20), 3) := by decide +kernel
theorem dX8_allImports_27 : decode cX8_allImports 27 = .ok (.iload_n 1, 1) := by decide +kernel
theorem dX8_allImports_28 : decode cX8_allImports 28 = .ok (.ireturn, 1) := by decide +kernel
theorem dX8_importAt_0 : decode cX8_importAt 0 = .ok (.aload_n 0, 1) := by decide +kernel
theorem dX8_importAt_1 : decode cX8_importAt 1 = .ok (.getfield 15, 3) := by decide +kernel
theorem dX8_importAt_4 : decode cX8_importAt 4 = .ok (.iload_n 1, 1) := by decide +kernel
theorem dX8_importAt_5 : decode cX8_importAt 5 = .ok (.iconst 5, 1) := by decide +kernel
theorem dX8_importAt_6 : decode cX8_importAt 6 = .ok (.imul, 1) := by decide +kernel
theorem dX8_importAt_7 : decode cX8_importAt 7 = .ok (.iload_n 2, 1) := by decide +kernel
theorem dX8_importAt_8 : decode cX8_importAt 8 = .ok (.iadd, 1) := by decide +kernel
theorem dX8_importAt_9 : decode cX8_importAt 9 = .ok (.iaload, 1) := by decide +kernel
theorem dX8_importAt_10 : decode cX8_importAt 10 = .ok (.ireturn, 1) := by decide +kernel
theorem dX8_addImport_0 : decode cX8_addImport 0 = .ok (.aload_n 0, 1) := by decide +kernel
theorem dX8_addImport_1 : decode cX8_addImport 1 = .ok (.getfield 15, 3) := by decide +kernel
theorem dX8_addImport_4 : decode cX8_addImport 4 = .ok (.iload_n 1, 1) := by decide +kernel
theorem dX8_addImport_5 : decode cX8_addImport 5 = .ok (.iconst 5, 1) := by decide +kernel
theorem dX8_addImport_6 : decode cX8_addImport 6 = .ok (.imul, 1) := by decide +kernel
theorem dX8_addImport_7 : decode cX8_addImport 7 = .ok (.aload_n 0, 1) := by decide +kernel
theorem dX8_addImport_8 : decode cX8_addImport 8 = .ok (.getfield 18, 3) := by decide +kernel
theorem dX8_addImport_11 : decode cX8_addImport 11 = .ok (.iload_n 1, 1) := by decide +kernel
theorem dX8_addImport_12 : decode cX8_addImport 12 = .ok (.iaload, 1) := by decide +kernel
theorem dX8_addImport_13 : decode cX8_addImport 13 = .ok (.iadd, 1) := by decide +kernel
theorem dX8_addImport_14 : decode cX8_addImport 14 = .ok (.iload_n 2, 1) := by decide +kernel
theorem dX8_addImport_15 : decode cX8_addImport 15 = .ok (.iastore, 1) := by decide +kernel
theorem dX8_addImport_16 : decode cX8_addImport 16 = .ok (.aload_n 0, 1) := by decide +kernel
theorem dX8_addImport_17 : decode cX8_addImport 17 = .ok (.getfield 18, 3) := by decide +kernel
theorem dX8_addImport_20 : decode cX8_addImport 20 = .ok (.iload_n 1, 1) := by decide +kernel
theorem dX8_addImport_21 : decode cX8_addImport 21 = .ok (.dup2, 1) := by decide +kernel
theorem dX8_addImport_22 : decode cX8_addImport 22 = .ok (.iaload, 1) := by decide +kernel
theorem dX8_addImport_23 : decode cX8_addImport 23 = .ok (.iconst 1, 1) := by decide +kernel
theorem dX8_addImport_24 : decode cX8_addImport 24 = .ok (.iadd, 1) := by decide +kernel
theorem dX8_addImport_25 : decode cX8_addImport 25 = .ok (.iastore, 1) := by decide +kernel
theorem dX8_addImport_26 : decode cX8_addImport 26 = .ok (.return_, 1) := by decide +kernel
theorem dX8_removeImport_0 : decode cX8_removeImport 0 = .ok (.aload_n 0, 1) := by decide +kernel
theorem dX8_removeImport_1 : decode cX8_removeImport 1 = .ok (.getfield 18, 3) := by decide +kernel
theorem dX8_removeImport_4 : decode cX8_removeImport 4 = .ok (.iload_n 1, 1) := by decide +kernel
theorem dX8_removeImport_5 : decode cX8_removeImport 5 = .ok (.dup2, 1) := by decide +kernel
theorem dX8_removeImport_6 : decode cX8_removeImport 6 = .ok (.iaload, 1) := by decide +kernel
theorem dX8_removeImport_7 : decode cX8_removeImport 7 = .ok (.iconst 1, 1) := by decide +kernel
theorem dX8_removeImport_8 : decode cX8_removeImport 8 = .ok (.isub, 1) := by decide +kernel
theorem dX8_removeImport_9 : decode cX8_removeImport 9 = .ok (.iastore, 1) := by decide +kernel
theorem dX8_removeImport_10 : decode cX8_removeImport 10 = .ok (.iload_n 2, 1) := by decide +kernel
theorem dX8_removeImport_11 : decode cX8_removeImport 11 = .ok (.istore_n 3, 1) := by decide +kernel
theorem dX8_removeImport_12 : decode cX8_removeImport 12 = .ok (.iload_n 3, 1) := by decide +kernel
theorem dX8_removeImport_13 : decode cX8_removeImport 13 = .ok (.aload_n 0, 1) := by decide +kernel
theorem dX8_removeImport_14 : decode cX8_removeImport 14 = .ok (.getfield 18, 3) := by decide +kernel
theorem dX8_removeImport_17 : decode cX8_removeImport 17 = .ok (.iload_n 1, 1) := by decide +kernel
theorem dX8_removeImport_18 : decode cX8_removeImport 18 = .ok (.iaload, 1) := by decide +kernel
theorem dX8_removeImport_19 : decode cX8_removeImport 19 = .ok (.if_icmp .ge 31, 3) := by decide +kernel
theorem dX8_removeImport_22 : decode cX8_removeImport 22 = .ok (.aload_n 0, 1) := by decide +kernel
theorem dX8_removeImport_23 : decode cX8_removeImport 23 = .ok (.getfield 15, 3) := by decide +kernel
theorem dX8_removeImport_26 : decode cX8_removeImport 26 = .ok (.iload_n 1, 1) := by decide +kernel
theorem dX8_removeImport_27 : decode cX8_removeImport 27 = .ok (.iconst 5, 1) := by decide +kernel
theorem dX8_removeImport_28 : decode cX8_removeImport 28 = .ok (.imul, 1) := by decide +kernel
theorem dX8_removeImport_29 : decode cX8_removeImport 29 = .ok (.iload_n 3, 1) := by decide +kernel
theorem dX8_removeImport_30 : decode cX8_removeImport 30 = .ok (.iadd, 1) := by decide +kernel
theorem dX8_removeImport_31 : decode cX8_removeImport 31 = .ok (.aload_n 0, 1) := by decide +kernel
theorem dX8_removeImport_32 : decode cX8_removeImport 32 = .ok (.getfield 15, 3) := by decide +kernel
theorem dX8_removeImport_35 : decode cX8_removeImport 35 = .ok (.iload_n 1, 1) := by decide +kernel
theorem dX8_removeImport_36 : decode cX8_removeImport 36 = .ok (.iconst 5, 1) := by decide +kernel
theorem dX8_removeImport_37 : decode cX8_removeImport 37 = .ok (.imul, 1) := by decide +kernel
theorem dX8_removeImport_38 : decode cX8_removeImport 38 = .ok (.iload_n 3, 1) := by decide +kernel
theorem dX8_removeImport_39 : decode cX8_removeImport 39 = .ok (.iadd, 1) := by decide +kernel
theorem dX8_removeImport_40 : decode cX8_removeImport 40 = .ok (.iconst 1, 1) := by decide +kernel
theorem dX8_removeImport_41 : decode cX8_removeImport 41 = .ok (.iadd, 1) := by decide +kernel
theorem dX8_removeImport_42 : decode cX8_removeImport 42 = .ok (.iaload, 1) := by decide +kernel
theorem dX8_removeImport_43 : decode cX8_removeImport 43 = .ok (.iastore, 1) := by decide +kernel
theorem dX8_removeImport_44 : decode cX8_removeImport 44 = .ok (.iinc 3 1, 3) := by decide +kernel
theorem dX8_removeImport_47 : decode cX8_removeImport 47 = .ok (.goto (-35), 3) := by decide +kernel
theorem dX8_removeImport_50 : decode cX8_removeImport 50 = .ok (.return_, 1) := by decide +kernel
theorem dX8_isSame_0 : decode cX8_isSame 0 = .ok (.aload_n 0, 1) := by decide +kernel
theorem dX8_isSame_1 : decode cX8_isSame 1 = .ok (.getfield 18, 3) := by decide +kernel
theorem dX8_isSame_4 : decode cX8_isSame 4 = .ok (.iload_n 2, 1) := by decide +kernel
theorem dX8_isSame_5 : decode cX8_isSame 5 = .ok (.iaload, 1) := by decide +kernel
theorem dX8_isSame_6 : decode cX8_isSame 6 = .ok (.aload_n 1, 1) := by decide +kernel
theorem dX8_isSame_7 : decode cX8_isSame 7 = .ok (.getfield 18, 3) := by decide +kernel
theorem dX8_isSame_10 : decode cX8_isSame 10 = .ok (.iload_n 2, 1) := by decide +kernel
theorem dX8_isSame_11 : decode cX8_isSame 11 = .ok (.iaload, 1) := by decide +kernel
theorem dX8_isSame_12 : decode cX8_isSame 12 = .ok (.if_icmp .eq 5, 3) := by decide +kernel
theorem dX8_isSame_15 : decode cX8_isSame 15 = .ok (.iconst 0, 1) := by decide +kernel
theorem dX8_isSame_16 : decode cX8_isSame 16 = .ok (.ireturn, 1) := by decide +kernel
theorem dX8_isSame_17 : decode cX8_isSame 17 = .ok (.iconst 0, 1) := by decide +kernel
theorem dX8_isSame_18 : decode cX8_isSame 18 = .ok (.istore_n 3, 1) := by decide +kernel
theorem dX8_isSame_19 : decode cX8_isSame 19 = .ok (.iload_n 3, 1) := by decide +kernel
theorem dX8_isSame_20 : decode cX8_isSame 20 = .ok (.aload_n 0, 1) := by decide +kernel
theorem dX8_isSame_21 : decode cX8_isSame 21 = .ok (.getfield 18, 3) := by decide +kernel
theorem dX8_isSame_24 : decode cX8_isSame 24 = .ok (.iload_n 2, 1) := by decide +kernel
theorem dX8_isSame_25 : decode cX8_isSame 25 = .ok (.iaload, 1) := by decide +kernel
theorem dX8_isSame_26 : decode cX8_isSame 26 = .ok (.if_icmp .ge 26, 3) := by decide +kernel
theorem dX8_isSame_29 : decode cX8_isSame 29 = .ok (.aload_n 0, 1) := by decide +kernel
theorem dX8_isSame_30 : decode cX8_isSame 30 = .ok (.iload_n 2, 1) := by decide +kernel
theorem dX8_isSame_31 : decode cX8_isSame 31 = .ok (.iload_n 3, 1) := by decide +kernel
theorem dX8_isSame_32 : decode cX8_isSame 32 = .ok (.invokevirtual 33, 3) := by decide +kernel
theorem dX8_isSame_35 : decode cX8_isSame 35 = .ok (.aload_n 1, 1) := by decide +kernel
theorem dX8_isSame_36 : decode cX8_isSame 36 = .ok (.iload_n 2, 1) := by decide +kernel
theorem dX8_isSame_37 : decode cX8_isSame 37 = .ok (.iload_n 3, 1) := by decide +kernel
theorem dX8_isSame_38 : decode cX8_isSame 38 = .ok (.invokevirtual 33, 3) := by decide +kernel
theorem dX8_isSame_41 : decode cX8_isSame 41 = .ok (.if_icmp .eq 5, 3) := by decide +kernel
theorem dX8_isSame_44 : decode cX8_isSame 44 = .ok (.iconst 0, 1) := by decide +kernel
theorem dX8_isSame_45 : decode cX8_isSame 45 = .ok (.ireturn, 1) := by decide +kernel
theorem dX8_isSame_46 : decode cX8_isSame 46 = .ok (.iinc 3 1, 3) := by decide +kernel
theorem dX8_isSame_49 : decode cX8_isSame 49 = .ok (.goto (-30), 3) := by decide +kernel
theorem dX8_isSame_52 : decode cX8_isSame 52 = .ok (.iload_n 2, 1) := by decide +kernel
theorem dX8_isSame_53 : decode cX8_isSame 53 = .ok (.bipush 16, 2) := by decide +kernel
theorem dX8_isSame_55 : decode cX8_isSame 55 = .ok (.imul, 1) := by decide +kernel
theorem dX8_isSame_56 : decode cX8_isSame 56 = .ok (.istore_n 3, 1) := by decide +kernel
theorem dX8_isSame_57 : decode cX8_isSame 57 = .ok (.iload_n 3, 1) := by decide +kernel
theorem dX8_isSame_58 : decode cX8_isSame 58 = .ok (.iload_n 2, 1) := by decide +kernel
theorem dX8_isSame_59 : decode cX8_isSame 59 = .ok (.bipush 16, 2) := by decide +kernel
theorem dX8_isSame_61 : decode cX8_isSame 61 = .ok (.imul, 1) := by decide +kernel
theorem dX8_isSame_62 : decode cX8_isSame 62 = .ok (.bipush 16, 2) := by decide +kernel
theorem dX8_isSame_64 : decode cX8_isSame 64 = .ok (.iadd, 1) := by decide +kernel
theorem dX8_isSame_65 : decode cX8_isSame 65 = .ok (.if_icmp .ge 26, 3) := by decide +kernel
theorem dX8_isSame_68 : decode cX8_isSame 68 = .ok (.aload_n 0, 1) := by decide +kernel
theorem dX8_isSame_69 : decode cX8_isSame 69 = .ok (.getfield 9, 3) := by decide +kernel
theorem dX8_isSame_72 : decode cX8_isSame 72 = .ok (.iload_n 3, 1) := by decide +kernel
theorem dX8_isSame_73 : decode cX8_isSame 73 = .ok (.iaload, 1) := by decide +kernel
theorem dX8_isSame_74 : decode cX8_isSame 74 = .ok (.aload_n 1, 1) := by decide +kernel
theorem dX8_isSame_75 : decode cX8_isSame 75 = .ok (.getfield 9, 3) := by decide +kernel
theorem dX8_isSame_78 : decode cX8_isSame 78 = .ok (.iload_n 3, 1) := by decide +kernel
theorem dX8_isSame_79 : decode cX8_isSame 79 = .ok (.iaload, 1) := by decide +kernel
theorem dX8_isSame_80 : decode cX8_isSame 80 = .ok (.if_icmp .eq 5, 3) := by decide +kernel
theorem dX8_isSame_83 : decode cX8_isSame 83 = .ok (.iconst 0, 1) := by decide +kernel
theorem dX8_isSame_84 : decode cX8_isSame 84 = .ok (.ireturn, 1) := by decide +kernel
theorem dX8_isSame_85 : decode cX8_isSame 85 = .ok (.iinc 3 1, 3) := by decide +kernel
theorem dX8_isSame_88 : decode cX8_isSame 88 = .ok (.goto (-31), 3) := by decide +kernel
theorem dX8_isSame_91 : decode cX8_isSame 91 = .ok (.iconst 1, 1) := by decide +kernel
theorem dX8_isSame_92 : decode cX8_isSame 92 = .ok (.ireturn, 1) := by decide +kernel
theorem dX8_copy_0 : decode cX8_copy 0 = .ok (.aload_n 1, 1) := by decide +kernel
theorem dX8_copy_1 : decode cX8_copy 1 = .ok (.getfield 9, 3) := by decide +kernel
theorem dX8_copy_4 : decode cX8_copy 4 = .ok (.iconst 0, 1) := by decide +kernel
theorem dX8_copy_5 : decode cX8_copy 5 = .ok (.aload_n 0, 1) := by decide +kernel
theorem dX8_copy_6 : decode cX8_copy 6 = .ok (.getfield 9, 3) := by decide +kernel
theorem dX8_copy_9 : decode cX8_copy 9 = .ok (.iconst 0, 1) := by decide +kernel
theorem dX8_copy_10 : decode cX8_copy 10 = .ok (.sipush 128, 3) := by decide +kernel
theorem dX8_copy_13 : decode cX8_copy 13 = .ok (.invokestatic 37, 3) := by decide +kernel
theorem dX8_copy_16 : decode cX8_copy 16 = .ok (.aload_n 1, 1) := by decide +kernel
theorem dX8_copy_17 : decode cX8_copy 17 = .ok (.getfield 15, 3) := by decide +kernel
theorem dX8_copy_20 : decode cX8_copy 20 = .ok (.iconst 0, 1) := by decide +kernel
theorem dX8_copy_21 : decode cX8_copy 21 = .ok (.aload_n 0, 1) := by decide +kernel
theorem dX8_copy_22 : decode cX8_copy 22 = .ok (.getfield 15, 3) := by decide +kernel
theorem dX8_copy_25 : decode cX8_copy 25 = .ok (.iconst 0, 1) := by decide +kernel
theorem dX8_copy_26 : decode cX8_copy 26 = .ok (.bipush 40, 2) := by decide +kernel
theorem dX8_copy_28 : decode cX8_copy 28 = .ok (.invokestatic 37, 3) := by decide +kernel
theorem dX8_copy_31 : decode cX8_copy 31 = .ok (.aload_n 1, 1) := by decide +kernel
theorem dX8_copy_32 : decode cX8_copy 32 = .ok (.getfield 18, 3) := by decide +kernel
theorem dX8_copy_35 : decode cX8_copy 35 = .ok (.iconst 0, 1) := by decide +kernel
theorem dX8_copy_36 : decode cX8_copy 36 = .ok (.aload_n 0, 1) := by decide +kernel
theorem dX8_copy_37 : decode cX8_copy 37 = .ok (.getfield 18, 3) := by decide +kernel
theorem dX8_copy_40 : decode cX8_copy 40 = .ok (.iconst 0, 1) := by decide +kernel
theorem dX8_copy_41 : decode cX8_copy 41 = .ok (.bipush 8, 2) := by decide +kernel
theorem dX8_copy_43 : decode cX8_copy 43 = .ok (.invokestatic 37, 3) := by decide +kernel
theorem dX8_copy_46 : decode cX8_copy 46 = .ok (.aload_n 0, 1) := by decide +kernel
theorem dX8_copy_47 : decode cX8_copy 47 = .ok (.aload_n 1, 1) := by decide +kernel
theorem dX8_copy_48 : decode cX8_copy 48 = .ok (.getfield 25, 3) := by decide +kernel
theorem dX8_copy_51 : decode cX8_copy 51 = .ok (.putfield 25, 3) := by decide +kernel
theorem dX8_copy_54 : decode cX8_copy 54 = .ok (.return_, 1) := by decide +kernel
theorem dX9_init_0 : decode cX9_init 0 = .ok (.aload_n 0, 1) := by decide +kernel
theorem dX9_init_1 : decode cX9_init 1 = .ok (.invokespecial 3, 3) := by decide +kernel
theorem dX9_init_4 : decode cX9_init 4 = .ok (.aload_n 0, 1) := by decide +kernel
theorem dX9_init_5 : decode cX9_init 5 = .ok (.bipush 8, 2) := by decide +kernel
theorem dX9_init_7 : decode cX9_init 7 = .ok (.anewarray 9, 3) := by decide +kernel
theorem dX9_init_10 : decode cX9_init 10 = .ok (.putfield 11, 3) := by decide +kernel
theorem dX9_init_13 : decode cX9_init 13 = .ok (.aload_n 0, 1) := by decide +kernel
theorem dX9_init_14 : decode cX9_init 14 = .ok (.aload_n 1, 1) := by decide +kernel
theorem dX9_init_15 : decode cX9_init 15 = .ok (.putfield 17, 3) := by decide +kernel
theorem dX9_init_18 : decode cX9_init 18 = .ok (.aload_n 0, 1) := by decide +kernel
theorem dX9_init_19 : decode cX9_init 19 = .ok (.aload_n 2, 1) := by decide +kernel
theorem dX9_init_20 : decode cX9_init 20 = .ok (.putfield 21, 3) := by decide +kernel
theorem dX9_init_23 : decode cX9_init 23 = .ok (.aload_n 0, 1) := by decide +kernel
theorem dX9_init_24 : decode cX9_init 24 = .ok (.aload_n 3, 1) := by decide +kernel
theorem dX9_init_25 : decode cX9_init 25 = .ok (.putfield 25, 3) := by decide +kernel
theorem dX9_init_28 : decode cX9_init 28 = .ok (.aload_n 0, 1) := by decide +kernel
theorem dX9_init_29 : decode cX9_init 29 = .ok (.new 29, 3) := by decide +kernel
theorem dX9_init_32 : decode cX9_init 32 = .ok (.dup, 1) := by decide +kernel
theorem dX9_init_33 : decode cX9_init 33 = .ok (.iload 4, 2) := by decide +kernel
theorem dX9_init_35 : decode cX9_init 35 = .ok (.invokespecial 31, 3) := by decide +kernel
theorem dX9_init_38 : decode cX9_init 38 = .ok (.putfield 34, 3) := by decide +kernel
theorem dX9_init_41 : decode cX9_init 41 = .ok (.aload_n 0, 1) := by decide +kernel
theorem dX9_init_42 : decode cX9_init 42 = .ok (.new 9, 3) := by decide +kernel
theorem dX9_init_45 : decode cX9_init 45 = .ok (.dup, 1) := by decide +kernel
theorem dX9_init_46 : decode cX9_init 46 = .ok (.invokespecial 38, 3) := by decide +kernel
theorem dX9_init_49 : decode cX9_init 49 = .ok (.putfield 39, 3) := by decide +kernel
theorem dX9_init_52 : decode cX9_init 52 = .ok (.iconst 0, 1) := by decide +kernel
theorem dX9_init_53 : decode cX9_init 53 = .ok (.istore 5, 2) := by decide +kernel
theorem dX9_init_55 : decode cX9_init 55 = .ok (.iload 5, 2) := by decide +kernel
theorem dX9_init_57 : decode cX9_init 57 = .ok (.bipush 8, 2) := by decide +kernel
theorem dX9_init_59 : decode cX9_init 59 = .ok (.if_icmp .ge 20, 3) := by decide +kernel
theorem dX9_init_62 : decode cX9_init 62 = .ok (.aload_n 0, 1) := by decide +kernel
theorem dX9_init_63 : decode cX9_init 63 = .ok (.getfield 11, 3) := by decide +kernel
theorem dX9_init_66 : decode cX9_init 66 = .ok (.iload 5, 2) := by decide +kernel
theorem dX9_init_68 : decode cX9_init 68 = .ok (.aload_n 0, 1) := by decide +kernel
theorem dX9_init_69 : decode cX9_init 69 = .ok (.getfield 39, 3) := by decide +kernel
theorem dX9_init_72 : decode cX9_init 72 = .ok (.aastore, 1) := by decide +kernel
theorem dX9_init_73 : decode cX9_init 73 = .ok (.iinc 5 1, 3) := by decide +kernel
theorem dX9_init_76 : decode cX9_init 76 = .ok (.goto (-21), 3) := by decide +kernel
theorem dX9_init_79 : decode cX9_init 79 = .ok (.aload_n 0, 1) := by decide +kernel
theorem dX9_init_80 : decode cX9_init 80 = .ok (.iload 4, 2) := by decide +kernel
theorem dX9_init_82 : decode cX9_init 82 = .ok (.bipush 8, 2) := by decide +kernel
theorem dX9_init_84 : decode cX9_init 84 = .ok (.iadd, 1) := by decide +kernel
theorem dX9_init_85 : decode cX9_init 85 = .ok (.iconst 1, 1) := by decide +kernel
theorem dX9_init_86 : decode cX9_init 86 = .ok (.iadd, 1) := by decide +kernel
theorem dX9_init_87 : decode cX9_init 87 = .ok (.anewarray 9, 3) := by decide +kernel
theorem dX9_init_90 : decode cX9_init 90 = .ok (.putfield 43, 3) := by decide +kernel
theorem dX9_init_93 : decode cX9_init 93 = .ok (.iconst 0, 1) := by decide +kernel
theorem dX9_init_94 : decode cX9_init 94 = .ok (.istore 5, 2) := by decide +kernel
theorem dX9_init_96 : decode cX9_init 96 = .ok (.iload 5, 2) := by decide +kernel
theorem dX9_init_98 : decode cX9_init 98 = .ok (.aload_n 0, 1) := by decide +kernel
theorem dX9_init_99 : decode cX9_init 99 = .ok (.getfield 43, 3) := by decide +kernel
theorem dX9_init_102 : decode cX9_init 102 = .ok (.arraylength, 1) := by decide +kernel
theorem dX9_init_103 : decode cX9_init 103 = .ok (.if_icmp .ge 23, 3) := by decide +kernel
theorem dX9_init_106 : decode cX9_init 106 = .ok (.aload_n 0, 1) := by decide +kernel
theorem dX9_init_107 : decode cX9_init 107 = .ok (.getfield 43, 3) := by decide +kernel
theorem dX9_init_110 : decode cX9_init 110 = .ok (.iload 5, 2) := by decide +kernel
theorem dX9_init_112 : decode cX9_init 112 = .ok (.new 9, 3) := by decide +kernel
theorem dX9_init_115 : decode cX9_init 115 = .ok (.dup, 1) := by decide +kernel
theorem dX9_init_116 : decode cX9_init 116 = .ok (.invokespecial 38, 3) := by decide +kernel
theorem dX9_init_119 : decode cX9_init 119 = .ok (.aastore, 1) := by decide +kernel
theorem dX9_init_120 : decode cX9_init 120 = .ok (.iinc 5 1, 3) := by decide +kernel
theorem dX9_init_123 : decode cX9_init 123 = .ok (.goto (-27), 3) := by decide +kernel
theorem dX9_init_126 : decode cX9_init 126 = .ok (.aload_n 0, 1) := by decide +kernel
theorem dX9_init_127 : decode cX9_init 127 = .ok (.new 46, 3) := by decide +kernel
theorem dX9_init_130 : decode cX9_init 130 = .ok (.dup, 1) := by decide +kernel
theorem dX9_init_131 : decode cX9_init 131 = .ok (.aload_n 2, 1) := by decide +kernel
theorem dX9_init_132 : decode cX9_init 132 = .ok (.invokespecial 48, 3) := by decide +kernel
theorem dX9_init_135 : decode cX9_init 135 = .ok (.putfield 51, 3) := by decide +kernel
theorem dX9_init_138 : decode cX9_init 138 = .ok (.return_, 1) := by decide +kernel
theorem dX9_startFrom_0 : decode cX9_startFrom 0 = .ok (.aload_n 0, 1) := by decide +kernel
theorem dX9_startFrom_1 : decode cX9_startFrom 1 = .ok (.getfield 17, 3) := by decide +kernel
theorem dX9_startFrom_4 : decode cX9_startFrom 4 = .ok (.aload_n 1, 1) := by decide +kernel
theorem dX9_startFrom_5 : decode cX9_startFrom 5 = .ok (.getfield 17, 3) := by decide +kernel
theorem dX9_startFrom_8 : decode cX9_startFrom 8 = .ok (.invokevirtual 55, 3) := by decide +kernel
theorem dX9_startFrom_11 : decode cX9_startFrom 11 = .ok (.iconst 0, 1) := by decide +kernel
theorem dX9_startFrom_12 : decode cX9_startFrom 12 = .ok (.istore_n 2, 1) := by decide +kernel
theorem dX9_startFrom_13 : decode cX9_startFrom 13 = .ok (.iload_n 2, 1) := by decide +kernel
theorem dX9_startFrom_14 : decode cX9_startFrom 14 = .ok (.bipush 8, 2) := by decide +kernel
theorem dX9_startFrom_16 : decode cX9_startFrom 16 = .ok (.if_icmp .ge 21, 3) := by decide +kernel
theorem dX9_startFrom_19 : decode cX9_startFrom 19 = .ok (.aload_n 0, 1) := by decide +kernel
theorem dX9_startFrom_20 : decode cX9_startFrom 20 = .ok (.getfield 11, 3) := by decide +kernel
theorem dX9_startFrom_23 : decode cX9_startFrom 23 = .ok (.iload_n 2, 1) := by decide +kernel
theorem dX9_startFrom_24 : decode cX9_startFrom 24 = .ok (.aload_n 1, 1) := by decide +kernel
theorem dX9_startFrom_25 : decode cX9_startFrom 25 = .ok (.getfield 11, 3) := by decide +kernel
theorem dX9_startFrom_28 : decode cX9_startFrom 28 = .ok (.iload_n 2, 1) := by decide +kernel
theorem dX9_startFrom_29 : decode cX9_startFrom 29 = .ok (.aaload, 1) := by decide +kernel
theorem dX9_startFrom_30 : decode cX9_startFrom 30 = .ok (.aastore, 1) := by decide +kernel
theorem dX9_startFrom_31 : decode cX9_startFrom 31 = .ok (.iinc 2 1, 3) := by decide +kernel
theorem dX9_startFrom_34 : decode cX9_startFrom 34 = .ok (.goto (-21), 3) := by decide +kernel
theorem dX9_startFrom_37 : decode cX9_startFrom 37 = .ok (.return_, 1) := by decide +kernel
theorem dX9_stateOf_0 : decode cX9_stateOf 0 = .ok (.aload_n 0, 1) := by decide +kernel
theorem dX9_stateOf_1 : decode cX9_stateOf 1 = .ok (.getfield 11, 3) := by decide +kernel
theorem dX9_stateOf_4 : decode cX9_stateOf 4 = .ok (.iload_n 1, 1) := by decide +kernel
theorem dX9_stateOf_5 : decode cX9_stateOf 5 = .ok (.bipush 16, 2) := by decide +kernel
theorem dX9_stateOf_7 : decode cX9_stateOf 7 = .ok (.idiv, 1) := by decide +kernel
theorem dX9_stateOf_8 : decode cX9_stateOf 8 = .ok (.aaload, 1) := by decide +kernel
theorem dX9_stateOf_9 : decode cX9_stateOf 9 = .ok (.areturn, 1) := by decide +kernel
theorem dX9_isFaulty_0 : decode cX9_isFaulty 0 = .ok (.aload_n 0, 1) := by decide +kernel
theorem dX9_isFaulty_1 : decode cX9_isFaulty 1 = .ok (.iload_n 1, 1) := by decide +kernel
theorem dX9_isFaulty_2 : decode cX9_isFaulty 2 = .ok (.invokevirtual 61, 3) := by decide +kernel
theorem dX9_isFaulty_5 : decode cX9_isFaulty 5 = .ok (.astore_n 2, 1) := by decide +kernel
theorem dX9_isFaulty_6 : decode cX9_isFaulty 6 = .ok (.aload_n 2, 1) := by decide +kernel
theorem dX9_isFaulty_7 : decode cX9_isFaulty 7 = .ok (.getfield 65, 3) := by decide +kernel
theorem dX9_isFaulty_10 : decode cX9_isFaulty 10 = .ok (.iload_n 1, 1) := by decide +kernel
theorem dX9_isFaulty_11 : decode cX9_isFaulty 11 = .ok (.invokevirtual 66, 3) := by decide +kernel
theorem dX9_isFaulty_14 : decode cX9_isFaulty 14 = .ok (.ifCond .eq 16, 3) := by decide +kernel
theorem dX9_isFaulty_17 : decode cX9_isFaulty 17 = .ok (.aload_n 2, 1) := by decide +kernel
theorem dX9_isFaulty_18 : decode cX9_isFaulty 18 = .ok (.getfield 70, 3) := by decide +kernel
theorem dX9_isFaulty_21 : decode cX9_isFaulty 21 = .ok (.iload_n 1, 1) := by decide +kernel
theorem dX9_isFaulty_22 : decode cX9_isFaulty 22 = .ok (.iaload, 1) := by decide +kernel
theorem dX9_isFaulty_23 : decode cX9_isFaulty 23 = .ok (.ifCond .eq 7, 3) := by decide +kernel
theorem dX9_isFaulty_26 : decode cX9_isFaulty 26 = .ok (.iconst 1, 1) := by decide +kernel
theorem dX9_isFaulty_27 : decode cX9_isFaulty 27 = .ok (.goto 4, 3) := by decide +kernel
theorem dX9_isFaulty_30 : decode cX9_isFaulty 30 = .ok (.iconst 0, 1) := by decide +kernel
theorem dX9_isFaulty_31 : decode cX9_isFaulty 31 = .ok (.ireturn, 1) := by decide +kernel
theorem dX9_faultCount_0 : decode cX9_faultCount 0 = .ok (.iconst 0, 1) := by decide +kernel
theorem dX9_faultCount_1 : decode cX9_faultCount 1 = .ok (.istore_n 1, 1) := by decide +kernel
theorem dX9_faultCount_2 : decode cX9_faultCount 2 = .ok (.iconst 0, 1) := by decide +kernel
theorem dX9_faultCount_3 : decode cX9_faultCount 3 = .ok (.istore_n 2, 1) := by decide +kernel
theorem dX9_faultCount_4 : decode cX9_faultCount 4 = .ok (.iload_n 2, 1) := by decide +kernel
theorem dX9_faultCount_5 : decode cX9_faultCount 5 = .ok (.sipush 128, 3) := by decide +kernel
theorem dX9_faultCount_8 : decode cX9_faultCount 8 = .ok (.if_icmp .ge 20, 3) := by decide +kernel
theorem dX9_faultCount_11 : decode cX9_faultCount 11 = .ok (.aload_n 0, 1) := by decide +kernel
theorem dX9_faultCount_12 : decode cX9_faultCount 12 = .ok (.iload_n 2, 1) := by decide +kernel
theorem dX9_faultCount_13 : decode cX9_faultCount 13 = .ok (.invokevirtual 74, 3) := by decide +kernel
theorem dX9_faultCount_16 : decode cX9_faultCount 16 = .ok (.ifCond .eq 6, 3) := by decide +kernel
theorem dX9_faultCount_19 : decode cX9_faultCount 19 = .ok (.iinc 1 1, 3) := by decide +kernel
theorem dX9_faultCount_22 : decode cX9_faultCount 22 = .ok (.iinc 2 1, 3) := by decide +kernel
theorem dX9_faultCount_25 : decode cX9_faultCount 25 = .ok (.goto (-21), 3) := by decide +kernel
theorem dX9_faultCount_28 : decode cX9_faultCount 28 = .ok (.iload_n 1, 1) := by decide +kernel
theorem dX9_faultCount_29 : decode cX9_faultCount 29 = .ok (.ireturn, 1) := by decide +kernel
theorem dX9_staleCount_0 : decode cX9_staleCount 0 = .ok (.iconst 0, 1) := by decide +kernel
theorem dX9_staleCount_1 : decode cX9_staleCount 1 = .ok (.istore_n 1, 1) := by decide +kernel
theorem dX9_staleCount_2 : decode cX9_staleCount 2 = .ok (.iconst 0, 1) := by decide +kernel
theorem dX9_staleCount_3 : decode cX9_staleCount 3 = .ok (.istore_n 2, 1) := by decide +kernel
theorem dX9_staleCount_4 : decode cX9_staleCount 4 = .ok (.iload_n 2, 1) := by decide +kernel
theorem dX9_staleCount_5 : decode cX9_staleCount 5 = .ok (.aload_n 0, 1) := by decide +kernel
theorem dX9_staleCount_6 : decode cX9_staleCount 6 = .ok (.getfield 25, 3) := by decide +kernel
theorem dX9_staleCount_9 : decode cX9_staleCount 9 = .ok (.getfield 77, 3) := by decide +kernel
theorem dX9_staleCount_12 : decode cX9_staleCount 12 = .ok (.if_icmp .ge 28, 3) := by decide +kernel
theorem dX9_staleCount_15 : decode cX9_staleCount 15 = .ok (.aload_n 0, 1) := by decide +kernel
theorem dX9_staleCount_16 : decode cX9_staleCount 16 = .ok (.aload_n 0, 1) := by decide +kernel
theorem dX9_staleCount_17 : decode cX9_staleCount 17 = .ok (.getfield 25, 3) := by decide +kernel
theorem dX9_staleCount_20 : decode cX9_staleCount 20 = .ok (.getfield 83, 3) := by decide +kernel
theorem dX9_staleCount_23 : decode cX9_staleCount 23 = .ok (.iload_n 2, 1) := by decide +kernel
theorem dX9_staleCount_24 : decode cX9_staleCount 24 = .ok (.iaload, 1) := by decide +kernel
theorem dX9_staleCount_25 : decode cX9_staleCount 25 = .ok (.invokevirtual 86, 3) := by decide +kernel
theorem dX9_staleCount_28 : decode cX9_staleCount 28 = .ok (.ifCond .eq 6, 3) := by decide +kernel
theorem dX9_staleCount_31 : decode cX9_staleCount 31 = .ok (.iinc 1 1, 3) := by decide +kernel
theorem dX9_staleCount_34 : decode cX9_staleCount 34 = .ok (.iinc 2 1, 3) := by decide +kernel
theorem dX9_staleCount_37 : decode cX9_staleCount 37 = .ok (.goto (-33), 3) := by decide +kernel
theorem dX9_staleCount_40 : decode cX9_staleCount 40 = .ok (.iload_n 1, 1) := by decide +kernel
theorem dX9_staleCount_41 : decode cX9_staleCount 41 = .ok (.ireturn, 1) := by decide +kernel
theorem dX9_reasonOf_0 : decode cX9_reasonOf 0 = .ok (.aload_n 0, 1) := by decide +kernel
theorem dX9_reasonOf_1 : decode cX9_reasonOf 1 = .ok (.iload_n 1, 1) := by decide +kernel
theorem dX9_reasonOf_2 : decode cX9_reasonOf 2 = .ok (.invokevirtual 90, 3) := by decide +kernel
theorem dX9_reasonOf_5 : decode cX9_reasonOf 5 = .ok (.iconst (-1), 1) := by decide +kernel
theorem dX9_reasonOf_6 : decode cX9_reasonOf 6 = .ok (.if_icmp .eq 5, 3) := by decide +kernel
theorem dX9_reasonOf_9 : decode cX9_reasonOf 9 = .ok (.iconst 1, 1) := by decide +kernel
theorem dX9_reasonOf_10 : decode cX9_reasonOf 10 = .ok (.ireturn, 1) := by decide +kernel
theorem dX9_reasonOf_11 : decode cX9_reasonOf 11 = .ok (.aload_n 0, 1) := by decide +kernel
theorem dX9_reasonOf_12 : decode cX9_reasonOf 12 = .ok (.iload_n 1, 1) := by decide +kernel
theorem dX9_reasonOf_13 : decode cX9_reasonOf 13 = .ok (.invokevirtual 93, 3) := by decide +kernel
theorem dX9_reasonOf_16 : decode cX9_reasonOf 16 = .ok (.ifCond .eq 5, 3) := by decide +kernel
theorem dX9_reasonOf_19 : decode cX9_reasonOf 19 = .ok (.iconst 2, 1) := by decide +kernel
theorem dX9_reasonOf_20 : decode cX9_reasonOf 20 = .ok (.ireturn, 1) := by decide +kernel
theorem dX9_reasonOf_21 : decode cX9_reasonOf 21 = .ok (.aload_n 0, 1) := by decide +kernel
theorem dX9_reasonOf_22 : decode cX9_reasonOf 22 = .ok (.iload_n 1, 1) := by decide +kernel
theorem dX9_reasonOf_23 : decode cX9_reasonOf 23 = .ok (.invokevirtual 96, 3) := by decide +kernel
theorem dX9_reasonOf_26 : decode cX9_reasonOf 26 = .ok (.astore_n 2, 1) := by decide +kernel
theorem dX9_reasonOf_27 : decode cX9_reasonOf 27 = .ok (.aload_n 0, 1) := by decide +kernel
theorem dX9_reasonOf_28 : decode cX9_reasonOf 28 = .ok (.aload_n 2, 1) := by decide +kernel
theorem dX9_reasonOf_29 : decode cX9_reasonOf 29 = .ok (.invokevirtual 99, 3) := by decide +kernel
theorem dX9_reasonOf_32 : decode cX9_reasonOf 32 = .ok (.iconst (-1), 1) := by decide +kernel
theorem dX9_reasonOf_33 : decode cX9_reasonOf 33 = .ok (.if_icmp .eq 5, 3) := by decide +kernel
theorem dX9_reasonOf_36 : decode cX9_reasonOf 36 = .ok (.iconst 3, 1) := by decide +kernel
theorem dX9_reasonOf_37 : decode cX9_reasonOf 37 = .ok (.ireturn, 1) := by decide +kernel
theorem dX9_reasonOf_38 : decode cX9_reasonOf 38 = .ok (.aload_n 0, 1) := by decide +kernel
theorem dX9_reasonOf_39 : decode cX9_reasonOf 39 = .ok (.aload_n 2, 1) := by decide +kernel
theorem dX9_reasonOf_40 : decode cX9_reasonOf 40 = .ok (.invokevirtual 103, 3) := by decide +kernel
theorem dX9_reasonOf_43 : decode cX9_reasonOf 43 = .ok (.iconst (-1), 1) := by decide +kernel
theorem dX9_reasonOf_44 : decode cX9_reasonOf 44 = .ok (.if_icmp .eq 7, 3) := by decide +kernel
theorem dX9_reasonOf_47 : decode cX9_reasonOf 47 = .ok (.iconst 4, 1) := by decide +kernel
theorem dX9_reasonOf_48 : decode cX9_reasonOf 48 = .ok (.goto 4, 3) := by decide +kernel
theorem dX9_reasonOf_51 : decode cX9_reasonOf 51 = .ok (.iconst 0, 1) := by decide +kernel
theorem dX9_reasonOf_52 : decode cX9_reasonOf 52 = .ok (.ireturn, 1) := by decide +kernel
theorem dX9_culpritOf_0 : decode cX9_culpritOf 0 = .ok (.iload_n 2, 1) := by decide +kernel
theorem dX9_culpritOf_1 : decode cX9_culpritOf 1 = .ok (.tableswitch 52 1 4 #[31, 47, 37, 47], 31) := by decide +kernel
theorem dX9_culpritOf_32 : decode cX9_culpritOf 32 = .ok (.aload_n 0, 1) := by decide +kernel
theorem dX9_culpritOf_33 : decode cX9_culpritOf 33 = .ok (.iload_n 1, 1) := by decide +kernel
theorem dX9_culpritOf_34 : decode cX9_culpritOf 34 = .ok (.invokevirtual 90, 3) := by decide +kernel
theorem dX9_culpritOf_37 : decode cX9_culpritOf 37 = .ok (.ireturn, 1) := by decide +kernel
theorem dX9_culpritOf_38 : decode cX9_culpritOf 38 = .ok (.aload_n 0, 1) := by decide +kernel
theorem dX9_culpritOf_39 : decode cX9_culpritOf 39 = .ok (.aload_n 0, 1) := by decide +kernel
theorem dX9_culpritOf_40 : decode cX9_culpritOf 40 = .ok (.iload_n 1, 1) := by decide +kernel
theorem dX9_culpritOf_41 : decode cX9_culpritOf 41 = .ok (.invokevirtual 96, 3) := by decide +kernel
theorem dX9_culpritOf_44 : decode cX9_culpritOf 44 = .ok (.invokevirtual 99, 3) := by decide +kernel
theorem dX9_culpritOf_47 : decode cX9_culpritOf 47 = .ok (.ireturn, 1) := by decide +kernel
theorem dX9_culpritOf_48 : decode cX9_culpritOf 48 = .ok (.iload_n 1, 1) := by decide +kernel
theorem dX9_culpritOf_49 : decode cX9_culpritOf 49 = .ok (.invokestatic 106, 3) := by decide +kernel
theorem dX9_culpritOf_52 : decode cX9_culpritOf 52 = .ok (.ireturn, 1) := by decide +kernel
theorem dX9_culpritOf_53 : decode cX9_culpritOf 53 = .ok (.iconst (-1), 1) := by decide +kernel
theorem dX9_culpritOf_54 : decode cX9_culpritOf 54 = .ok (.ireturn, 1) := by decide +kernel
theorem dX9_firstUnbuilt_0 : decode cX9_firstUnbuilt 0 = .ok (.iconst 0, 1) := by decide +kernel
theorem dX9_firstUnbuilt_1 : decode cX9_firstUnbuilt 1 = .ok (.istore_n 2, 1) := by decide +kernel
theorem dX9_firstUnbuilt_2 : decode cX9_firstUnbuilt 2 = .ok (.iload_n 2, 1) := by decide +kernel
theorem dX9_firstUnbuilt_3 : decode cX9_firstUnbuilt 3 = .ok (.bipush 8, 2) := by decide +kernel
theorem dX9_firstUnbuilt_5 : decode cX9_firstUnbuilt 5 = .ok (.if_icmp .ge 31, 3) := by decide +kernel
theorem dX9_firstUnbuilt_8 : decode cX9_firstUnbuilt 8 = .ok (.iload_n 1, 1) := by decide +kernel
theorem dX9_firstUnbuilt_9 : decode cX9_firstUnbuilt 9 = .ok (.iload_n 2, 1) := by decide +kernel
theorem dX9_firstUnbuilt_10 : decode cX9_firstUnbuilt 10 = .ok (.invokestatic 109, 3) := by decide +kernel
theorem dX9_firstUnbuilt_13 : decode cX9_firstUnbuilt 13 = .ok (.ifCond .eq 17, 3) := by decide +kernel
theorem dX9_firstUnbuilt_16 : decode cX9_firstUnbuilt 16 = .ok (.aload_n 0, 1) := by decide +kernel
theorem dX9_firstUnbuilt_17 : decode cX9_firstUnbuilt 17 = .ok (.getfield 11, 3) := by decide +kernel
theorem dX9_firstUnbuilt_20 : decode cX9_firstUnbuilt 20 = .ok (.iload_n 2, 1) := by decide +kernel
theorem dX9_firstUnbuilt_21 : decode cX9_firstUnbuilt 21 = .ok (.aaload, 1) := by decide +kernel
theorem dX9_firstUnbuilt_22 : decode cX9_firstUnbuilt 22 = .ok (.getfield 113, 3) := by decide +kernel
theorem dX9_firstUnbuilt_25 : decode cX9_firstUnbuilt 25 = .ok (.ifCond .ne 5, 3) := by decide +kernel
theorem dX9_firstUnbuilt_28 : decode cX9_firstUnbuilt 28 = .ok (.iload_n 2, 1) := by decide +kernel
theorem dX9_firstUnbuilt_29 : decode cX9_firstUnbuilt 29 = .ok (.ireturn, 1) := by decide +kernel
theorem dX9_firstUnbuilt_30 : decode cX9_firstUnbuilt 30 = .ok (.iinc 2 1, 3) := by decide +kernel
theorem dX9_firstUnbuilt_33 : decode cX9_firstUnbuilt 33 = .ok (.goto (-31), 3) := by decide +kernel
theorem dX9_firstUnbuilt_36 : decode cX9_firstUnbuilt 36 = .ok (.iconst (-1), 1) := by decide +kernel
theorem dX9_firstUnbuilt_37 : decode cX9_firstUnbuilt 37 = .ok (.ireturn, 1) := by decide +kernel
theorem dX9_wasInOtherRing_0 : decode cX9_wasInOtherRing 0 = .ok (.iconst 0, 1) := by decide +kernel
theorem dX9_wasInOtherRing_1 : decode cX9_wasInOtherRing 1 = .ok (.istore_n 2, 1) := by decide +kernel
theorem dX9_wasInOtherRing_2 : decode cX9_wasInOtherRing 2 = .ok (.iload_n 2, 1) := by decide +kernel
theorem dX9_wasInOtherRing_3 : decode cX9_wasInOtherRing 3 = .ok (.bipush 8, 2) := by decide +kernel
theorem dX9_wasInOtherRing_5 : decode cX9_wasInOtherRing 5 = .ok (.if_icmp .ge 32, 3) := by decide +kernel
theorem dX9_wasInOtherRing_8 : decode cX9_wasInOtherRing 8 = .ok (.iload_n 1, 1) := by decide +kernel
theorem dX9_wasInOtherRing_9 : decode cX9_wasInOtherRing 9 = .ok (.iload_n 2, 1) := by decide +kernel
theorem dX9_wasInOtherRing_10 : decode cX9_wasInOtherRing 10 = .ok (.invokestatic 109, 3) := by decide +kernel
theorem dX9_wasInOtherRing_13 : decode cX9_wasInOtherRing 13 = .ok (.ifCond .eq 18, 3) := by decide +kernel
theorem dX9_wasInOtherRing_16 : decode cX9_wasInOtherRing 16 = .ok (.aload_n 0, 1) := by decide +kernel
theorem dX9_wasInOtherRing_17 : decode cX9_wasInOtherRing 17 = .ok (.getfield 11, 3) := by decide +kernel
theorem dX9_wasInOtherRing_20 : decode cX9_wasInOtherRing 20 = .ok (.iload_n 2, 1) := by decide +kernel
theorem dX9_wasInOtherRing_21 : decode cX9_wasInOtherRing 21 = .ok (.aaload, 1) := by decide +kernel
theorem dX9_wasInOtherRing_22 : decode cX9_wasInOtherRing 22 = .ok (.getfield 113, 3) := by decide +kernel
theorem dX9_wasInOtherRing_25 : decode cX9_wasInOtherRing 25 = .ok (.iload_n 1, 1) := by decide +kernel
theorem dX9_wasInOtherRing_26 : decode cX9_wasInOtherRing 26 = .ok (.if_icmp .eq 5, 3) := by decide +kernel
theorem dX9_wasInOtherRing_29 : decode cX9_wasInOtherRing 29 = .ok (.iconst 1, 1) := by decide +kernel
theorem dX9_wasInOtherRing_30 : decode cX9_wasInOtherRing 30 = .ok (.ireturn, 1) := by decide +kernel
theorem dX9_wasInOtherRing_31 : decode cX9_wasInOtherRing 31 = .ok (.iinc 2 1, 3) := by decide +kernel
theorem dX9_wasInOtherRing_34 : decode cX9_wasInOtherRing 34 = .ok (.goto (-32), 3) := by decide +kernel
theorem dX9_wasInOtherRing_37 : decode cX9_wasInOtherRing 37 = .ok (.iconst 0, 1) := by decide +kernel
theorem dX9_wasInOtherRing_38 : decode cX9_wasInOtherRing 38 = .ok (.ireturn, 1) := by decide +kernel
theorem dX9_firstOtherText_0 : decode cX9_firstOtherText 0 = .ok (.iconst 0, 1) := by decide +kernel
theorem dX9_firstOtherText_1 : decode cX9_firstOtherText 1 = .ok (.istore_n 2, 1) := by decide +kernel
theorem dX9_firstOtherText_2 : decode cX9_firstOtherText 2 = .ok (.iload_n 2, 1) := by decide +kernel
theorem dX9_firstOtherText_3 : decode cX9_firstOtherText 3 = .ok (.bipush 8, 2) := by decide +kernel
theorem dX9_firstOtherText_5 : decode cX9_firstOtherText 5 = .ok (.if_icmp .ge 37, 3) := by decide +kernel
theorem dX9_firstOtherText_8 : decode cX9_firstOtherText 8 = .ok (.aload_n 1, 1) := by decide +kernel
theorem dX9_firstOtherText_9 : decode cX9_firstOtherText 9 = .ok (.getfield 113, 3) := by decide +kernel
theorem dX9_firstOtherText_12 : decode cX9_firstOtherText 12 = .ok (.iload_n 2, 1) := by decide +kernel
theorem dX9_firstOtherText_13 : decode cX9_firstOtherText 13 = .ok (.invokestatic 109, 3) := by decide +kernel
theorem dX9_firstOtherText_16 : decode cX9_firstOtherText 16 = .ok (.ifCond .eq 20, 3) := by decide +kernel
theorem dX9_firstOtherText_19 : decode cX9_firstOtherText 19 = .ok (.aload_n 0, 1) := by decide +kernel
theorem dX9_firstOtherText_20 : decode cX9_firstOtherText 20 = .ok (.getfield 17, 3) := by decide +kernel
theorem dX9_firstOtherText_23 : decode cX9_firstOtherText 23 = .ok (.aload_n 1, 1) := by decide +kernel
theorem dX9_firstOtherText_24 : decode cX9_firstOtherText 24 = .ok (.getfield 65, 3) := by decide +kernel
theorem dX9_firstOtherText_27 : decode cX9_firstOtherText 27 = .ok (.iload_n 2, 1) := by decide +kernel
theorem dX9_firstOtherText_28 : decode cX9_firstOtherText 28 = .ok (.invokevirtual 116, 3) := by decide +kernel
theorem dX9_firstOtherText_31 : decode cX9_firstOtherText 31 = .ok (.ifCond .ne 5, 3) := by decide +kernel
theorem dX9_firstOtherText_34 : decode cX9_firstOtherText 34 = .ok (.iload_n 2, 1) := by decide +kernel
theorem dX9_firstOtherText_35 : decode cX9_firstOtherText 35 = .ok (.ireturn, 1) := by decide +kernel
theorem dX9_firstOtherText_36 : decode cX9_firstOtherText 36 = .ok (.iinc 2 1, 3) := by decide +kernel
theorem dX9_firstOtherText_39 : decode cX9_firstOtherText 39 = .ok (.goto (-37), 3) := by decide +kernel
theorem dX9_firstOtherText_42 : decode cX9_firstOtherText 42 = .ok (.iconst (-1), 1) := by decide +kernel
theorem dX9_firstOtherText_43 : decode cX9_firstOtherText 43 = .ok (.ireturn, 1) := by decide +kernel
theorem dX9_resultOf_0 : decode cX9_resultOf 0 = .ok (.iload_n 1, 1) := by decide +kernel
theorem dX9_resultOf_1 : decode cX9_resultOf 1 = .ok (.invokestatic 106, 3) := by decide +kernel
theorem dX9_resultOf_4 : decode cX9_resultOf 4 = .ok (.istore_n 2, 1) := by decide +kernel
theorem dX9_resultOf_5 : decode cX9_resultOf 5 = .ok (.iload_n 2, 1) := by decide +kernel
theorem dX9_resultOf_6 : decode cX9_resultOf 6 = .ok (.iconst (-1), 1) := by decide +kernel
theorem dX9_resultOf_7 : decode cX9_resultOf 7 = .ok (.if_icmp .ne 10, 3) := by decide +kernel
theorem dX9_resultOf_10 : decode cX9_resultOf 10 = .ok (.aload_n 0, 1) := by decide +kernel
theorem dX9_resultOf_11 : decode cX9_resultOf 11 = .ok (.getfield 39, 3) := by decide +kernel
theorem dX9_resultOf_14 : decode cX9_resultOf 14 = .ok (.goto 9, 3) := by decide +kernel
theorem dX9_resultOf_17 : decode cX9_resultOf 17 = .ok (.aload_n 0, 1) := by decide +kernel
theorem dX9_resultOf_18 : decode cX9_resultOf 18 = .ok (.getfield 11, 3) := by decide +kernel
theorem dX9_resultOf_21 : decode cX9_resultOf 21 = .ok (.iload_n 2, 1) := by decide +kernel
theorem dX9_resultOf_22 : decode cX9_resultOf 22 = .ok (.aaload, 1) := by decide +kernel
theorem dX9_resultOf_23 : decode cX9_resultOf 23 = .ok (.areturn, 1) := by decide +kernel
theorem dX9_firstOtherAnswer_0 : decode cX9_firstOtherAnswer 0 = .ok (.iconst 0, 1) := by decide +kernel
theorem dX9_firstOtherAnswer_1 : decode cX9_firstOtherAnswer 1 = .ok (.istore_n 2, 1) := by decide +kernel
theorem dX9_firstOtherAnswer_2 : decode cX9_firstOtherAnswer 2 = .ok (.iload_n 2, 1) := by decide +kernel
theorem dX9_firstOtherAnswer_3 : decode cX9_firstOtherAnswer 3 = .ok (.sipush 128, 3) := by decide +kernel
theorem dX9_firstOtherAnswer_6 : decode cX9_firstOtherAnswer 6 = .ok (.if_icmp .ge 43, 3) := by decide +kernel
theorem dX9_firstOtherAnswer_9 : decode cX9_firstOtherAnswer 9 = .ok (.aload_n 1, 1) := by decide +kernel
theorem dX9_firstOtherAnswer_10 : decode cX9_firstOtherAnswer 10 = .ok (.getfield 120, 3) := by decide +kernel
theorem dX9_firstOtherAnswer_13 : decode cX9_firstOtherAnswer 13 = .ok (.iload_n 2, 1) := by decide +kernel
theorem dX9_firstOtherAnswer_14 : decode cX9_firstOtherAnswer 14 = .ok (.laload, 1) := by decide +kernel
theorem dX9_firstOtherAnswer_15 : decode cX9_firstOtherAnswer 15 = .ok (.ldc2_w 124, 3) := by decide +kernel
theorem dX9_firstOtherAnswer_18 : decode cX9_firstOtherAnswer 18 = .ok (.lcmp, 1) := by decide +kernel
theorem dX9_firstOtherAnswer_19 : decode cX9_firstOtherAnswer 19 = .ok (.ifCond .eq 24, 3) := by decide +kernel
theorem dX9_firstOtherAnswer_22 : decode cX9_firstOtherAnswer 22 = .ok (.aload_n 1, 1) := by decide +kernel
theorem dX9_firstOtherAnswer_23 : decode cX9_firstOtherAnswer 23 = .ok (.getfield 120, 3) := by decide +kernel
theorem dX9_firstOtherAnswer_26 : decode cX9_firstOtherAnswer 26 = .ok (.iload_n 2, 1) := by decide +kernel
theorem dX9_firstOtherAnswer_27 : decode cX9_firstOtherAnswer 27 = .ok (.laload, 1) := by decide +kernel
theorem dX9_firstOtherAnswer_28 : decode cX9_firstOtherAnswer 28 = .ok (.aload_n 0, 1) := by decide +kernel
theorem dX9_firstOtherAnswer_29 : decode cX9_firstOtherAnswer 29 = .ok (.iload_n 2, 1) := by decide +kernel
theorem dX9_firstOtherAnswer_30 : decode cX9_firstOtherAnswer 30 = .ok (.aload_n 1, 1) := by decide +kernel
theorem dX9_firstOtherAnswer_31 : decode cX9_firstOtherAnswer 31 = .ok (.getfield 113, 3) := by decide +kernel
theorem dX9_firstOtherAnswer_34 : decode cX9_firstOtherAnswer 34 = .ok (.invokevirtual 126, 3) := by decide +kernel
theorem dX9_firstOtherAnswer_37 : decode cX9_firstOtherAnswer 37 = .ok (.lcmp, 1) := by decide +kernel
theorem dX9_firstOtherAnswer_38 : decode cX9_firstOtherAnswer 38 = .ok (.ifCond .eq 5, 3) := by decide +kernel
theorem dX9_firstOtherAnswer_41 : decode cX9_firstOtherAnswer 41 = .ok (.iload_n 2, 1) := by decide +kernel
theorem dX9_firstOtherAnswer_42 : decode cX9_firstOtherAnswer 42 = .ok (.ireturn, 1) := by decide +kernel
theorem dX9_firstOtherAnswer_43 : decode cX9_firstOtherAnswer 43 = .ok (.iinc 2 1, 3) := by decide +kernel
theorem dX9_firstOtherAnswer_46 : decode cX9_firstOtherAnswer 46 = .ok (.goto (-44), 3) := by decide +kernel
theorem dX9_firstOtherAnswer_49 : decode cX9_firstOtherAnswer 49 = .ok (.iconst (-1), 1) := by decide +kernel
theorem dX9_firstOtherAnswer_50 : decode cX9_firstOtherAnswer 50 = .ok (.ireturn, 1) := by decide +kernel
theorem dX9_answerTo_0 : decode cX9_answerTo 0 = .ok (.aload_n 0, 1) := by decide +kernel
theorem dX9_answerTo_1 : decode cX9_answerTo 1 = .ok (.getfield 21, 3) := by decide +kernel
theorem dX9_answerTo_4 : decode cX9_answerTo 4 = .ok (.getfield 130, 3) := by decide +kernel
theorem dX9_answerTo_7 : decode cX9_answerTo 7 = .ok (.iload_n 1, 1) := by decide +kernel
theorem dX9_answerTo_8 : decode cX9_answerTo 8 = .ok (.iaload, 1) := by decide +kernel
theorem dX9_answerTo_9 : decode cX9_answerTo 9 = .ok (.istore_n 3, 1) := by decide +kernel
theorem dX9_answerTo_10 : decode cX9_answerTo 10 = .ok (.iload_n 3, 1) := by decide +kernel
theorem dX9_answerTo_11 : decode cX9_answerTo 11 = .ok (.ifCond .lt 14, 3) := by decide +kernel
theorem dX9_answerTo_14 : decode cX9_answerTo 14 = .ok (.iload_n 2, 1) := by decide +kernel
theorem dX9_answerTo_15 : decode cX9_answerTo 15 = .ok (.iload_n 3, 1) := by decide +kernel
theorem dX9_answerTo_16 : decode cX9_answerTo 16 = .ok (.bipush 16, 2) := by decide +kernel
theorem dX9_answerTo_18 : decode cX9_answerTo 18 = .ok (.idiv, 1) := by decide +kernel
theorem dX9_answerTo_19 : decode cX9_answerTo 19 = .ok (.invokestatic 109, 3) := by decide +kernel
theorem dX9_answerTo_22 : decode cX9_answerTo 22 = .ok (.ifCond .eq 6, 3) := by decide +kernel
theorem dX9_answerTo_25 : decode cX9_answerTo 25 = .ok (.iload_n 3, 1) := by decide +kernel
theorem dX9_answerTo_26 : decode cX9_answerTo 26 = .ok (.i2l, 1) := by decide +kernel
theorem dX9_answerTo_27 : decode cX9_answerTo 27 = .ok (.lreturn, 1) := by decide +kernel
theorem dX9_answerTo_28 : decode cX9_answerTo 28 = .ok (.aload_n 0, 1) := by decide +kernel
theorem dX9_answerTo_29 : decode cX9_answerTo 29 = .ok (.getfield 11, 3) := by decide +kernel
theorem dX9_answerTo_32 : decode cX9_answerTo 32 = .ok (.iload_n 3, 1) := by decide +kernel
theorem dX9_answerTo_33 : decode cX9_answerTo 33 = .ok (.bipush 16, 2) := by decide +kernel
theorem dX9_answerTo_35 : decode cX9_answerTo 35 = .ok (.idiv, 1) := by decide +kernel
theorem dX9_answerTo_36 : decode cX9_answerTo 36 = .ok (.aaload, 1) := by decide +kernel
theorem dX9_answerTo_37 : decode cX9_answerTo 37 = .ok (.getfield 135, 3) := by decide +kernel
theorem dX9_answerTo_40 : decode cX9_answerTo 40 = .ok (.iload_n 3, 1) := by decide +kernel
theorem dX9_answerTo_41 : decode cX9_answerTo 41 = .ok (.laload, 1) := by decide +kernel
theorem dX9_answerTo_42 : decode cX9_answerTo 42 = .ok (.lreturn, 1) := by decide +kernel
theorem dX9_renewAll_0 : decode cX9_renewAll 0 = .ok (.iconst 0, 1) := by decide +kernel
theorem dX9_renewAll_1 : decode cX9_renewAll 1 = .ok (.istore_n 1, 1) := by decide +kernel
theorem dX9_renewAll_2 : decode cX9_renewAll 2 = .ok (.iconst 0, 1) := by decide +kernel
theorem dX9_renewAll_3 : decode cX9_renewAll 3 = .ok (.istore_n 2, 1) := by decide +kernel
theorem dX9_renewAll_4 : decode cX9_renewAll 4 = .ok (.iload_n 2, 1) := by decide +kernel
theorem dX9_renewAll_5 : decode cX9_renewAll 5 = .ok (.aload_n 0, 1) := by decide +kernel
theorem dX9_renewAll_6 : decode cX9_renewAll 6 = .ok (.getfield 25, 3) := by decide +kernel
theorem dX9_renewAll_9 : decode cX9_renewAll 9 = .ok (.getfield 77, 3) := by decide +kernel
theorem dX9_renewAll_12 : decode cX9_renewAll 12 = .ok (.if_icmp .ge 42, 3) := by decide +kernel
theorem dX9_renewAll_15 : decode cX9_renewAll 15 = .ok (.aload_n 0, 1) := by decide +kernel
theorem dX9_renewAll_16 : decode cX9_renewAll 16 = .ok (.aload_n 0, 1) := by decide +kernel
theorem dX9_renewAll_17 : decode cX9_renewAll 17 = .ok (.getfield 25, 3) := by decide +kernel
theorem dX9_renewAll_20 : decode cX9_renewAll 20 = .ok (.getfield 83, 3) := by decide +kernel
theorem dX9_renewAll_23 : decode cX9_renewAll 23 = .ok (.iload_n 2, 1) := by decide +kernel
theorem dX9_renewAll_24 : decode cX9_renewAll 24 = .ok (.iaload, 1) := by decide +kernel
theorem dX9_renewAll_25 : decode cX9_renewAll 25 = .ok (.invokevirtual 86, 3) := by decide +kernel
theorem dX9_renewAll_28 : decode cX9_renewAll 28 = .ok (.ifCond .eq 20, 3) := by decide +kernel
theorem dX9_renewAll_31 : decode cX9_renewAll 31 = .ok (.aload_n 0, 1) := by decide +kernel
theorem dX9_renewAll_32 : decode cX9_renewAll 32 = .ok (.aload_n 0, 1) := by decide +kernel
theorem dX9_renewAll_33 : decode cX9_renewAll 33 = .ok (.getfield 25, 3) := by decide +kernel
theorem dX9_renewAll_36 : decode cX9_renewAll 36 = .ok (.getfield 83, 3) := by decide +kernel
theorem dX9_renewAll_39 : decode cX9_renewAll 39 = .ok (.iload_n 2, 1) := by decide +kernel
theorem dX9_renewAll_40 : decode cX9_renewAll 40 = .ok (.iaload, 1) := by decide +kernel
theorem dX9_renewAll_41 : decode cX9_renewAll 41 = .ok (.invokevirtual 138, 3) := by decide +kernel
theorem dX9_renewAll_44 : decode cX9_renewAll 44 = .ok (.pop, 1) := by decide +kernel
theorem dX9_renewAll_45 : decode cX9_renewAll 45 = .ok (.iinc 1 1, 3) := by decide +kernel
theorem dX9_renewAll_48 : decode cX9_renewAll 48 = .ok (.iinc 2 1, 3) := by decide +kernel
theorem dX9_renewAll_51 : decode cX9_renewAll 51 = .ok (.goto (-47), 3) := by decide +kernel
theorem dX9_renewAll_54 : decode cX9_renewAll 54 = .ok (.iload_n 1, 1) := by decide +kernel
theorem dX9_renewAll_55 : decode cX9_renewAll 55 = .ok (.ireturn, 1) := by decide +kernel
theorem dX9_renewRound_0 : decode cX9_renewRound 0 = .ok (.aload_n 0, 1) := by decide +kernel
theorem dX9_renewRound_1 : decode cX9_renewRound 1 = .ok (.invokevirtual 141, 3) := by decide +kernel
theorem dX9_renewRound_4 : decode cX9_renewRound 4 = .ok (.istore_n 2, 1) := by decide +kernel
theorem dX9_renewRound_5 : decode cX9_renewRound 5 = .ok (.iconst 0, 1) := by decide +kernel
theorem dX9_renewRound_6 : decode cX9_renewRound 6 = .ok (.istore_n 3, 1) := by decide +kernel
theorem dX9_renewRound_7 : decode cX9_renewRound 7 = .ok (.iconst 0, 1) := by decide +kernel
theorem dX9_renewRound_8 : decode cX9_renewRound 8 = .ok (.istore 4, 2) := by decide +kernel
theorem dX9_renewRound_10 : decode cX9_renewRound 10 = .ok (.iload 4, 2) := by decide +kernel
theorem dX9_renewRound_12 : decode cX9_renewRound 12 = .ok (.aload_n 0, 1) := by decide +kernel
theorem dX9_renewRound_13 : decode cX9_renewRound 13 = .ok (.getfield 25, 3) := by decide +kernel
theorem dX9_renewRound_16 : decode cX9_renewRound 16 = .ok (.getfield 77, 3) := by decide +kernel
theorem dX9_renewRound_19 : decode cX9_renewRound 19 = .ok (.if_icmp .ge 72, 3) := by decide +kernel
theorem dX9_renewRound_22 : decode cX9_renewRound 22 = .ok (.iload_n 3, 1) := by decide +kernel
theorem dX9_renewRound_23 : decode cX9_renewRound 23 = .ok (.iload_n 1, 1) := by decide +kernel
theorem dX9_renewRound_24 : decode cX9_renewRound 24 = .ok (.if_icmp .ge 67, 3) := by decide +kernel
theorem dX9_renewRound_27 : decode cX9_renewRound 27 = .ok (.aload_n 0, 1) := by decide +kernel
theorem dX9_renewRound_28 : decode cX9_renewRound 28 = .ok (.getfield 25, 3) := by decide +kernel
theorem dX9_renewRound_31 : decode cX9_renewRound 31 = .ok (.getfield 83, 3) := by decide +kernel
theorem dX9_renewRound_34 : decode cX9_renewRound 34 = .ok (.iload 4, 2) := by decide +kernel
theorem dX9_renewRound_36 : decode cX9_renewRound 36 = .ok (.iaload, 1) := by decide +kernel
theorem dX9_renewRound_37 : decode cX9_renewRound 37 = .ok (.istore 5, 2) := by decide +kernel
theorem dX9_renewRound_39 : decode cX9_renewRound 39 = .ok (.iload 5, 2) := by decide +kernel
theorem dX9_renewRound_41 : decode cX9_renewRound 41 = .ok (.invokestatic 106, 3) := by decide +kernel
theorem dX9_renewRound_44 : decode cX9_renewRound 44 = .ok (.istore 6, 2) := by decide +kernel
theorem dX9_renewRound_46 : decode cX9_renewRound 46 = .ok (.iload_n 2, 1) := by decide +kernel
theorem dX9_renewRound_47 : decode cX9_renewRound 47 = .ok (.iload 6, 2) := by decide +kernel
theorem dX9_renewRound_49 : decode cX9_renewRound 49 = .ok (.invokestatic 109, 3) := by decide +kernel
theorem dX9_renewRound_52 : decode cX9_renewRound 52 = .ok (.ifCond .eq 33, 3) := by decide +kernel
theorem dX9_renewRound_55 : decode cX9_renewRound 55 = .ok (.aload_n 0, 1) := by decide +kernel
theorem dX9_renewRound_56 : decode cX9_renewRound 56 = .ok (.getfield 25, 3) := by decide +kernel
theorem dX9_renewRound_59 : decode cX9_renewRound 59 = .ok (.getfield 145, 3) := by decide +kernel
theorem dX9_renewRound_62 : decode cX9_renewRound 62 = .ok (.iload 6, 2) := by decide +kernel
theorem dX9_renewRound_64 : decode cX9_renewRound 64 = .ok (.iaload, 1) := by decide +kernel
theorem dX9_renewRound_65 : decode cX9_renewRound 65 = .ok (.iload 5, 2) := by decide +kernel
theorem dX9_renewRound_67 : decode cX9_renewRound 67 = .ok (.iconst (-1), 1) := by decide +kernel
theorem dX9_renewRound_68 : decode cX9_renewRound 68 = .ok (.ixor, 1) := by decide +kernel
theorem dX9_renewRound_69 : decode cX9_renewRound 69 = .ok (.iand, 1) := by decide +kernel
theorem dX9_renewRound_70 : decode cX9_renewRound 70 = .ok (.iload_n 2, 1) := by decide +kernel
theorem dX9_renewRound_71 : decode cX9_renewRound 71 = .ok (.iand, 1) := by decide +kernel
theorem dX9_renewRound_72 : decode cX9_renewRound 72 = .ok (.ifCond .ne 13, 3) := by decide +kernel
theorem dX9_renewRound_75 : decode cX9_renewRound 75 = .ok (.aload_n 0, 1) := by decide +kernel
theorem dX9_renewRound_76 : decode cX9_renewRound 76 = .ok (.iload 5, 2) := by decide +kernel
theorem dX9_renewRound_78 : decode cX9_renewRound 78 = .ok (.invokevirtual 138, 3) := by decide +kernel
theorem dX9_renewRound_81 : decode cX9_renewRound 81 = .ok (.pop, 1) := by decide +kernel
theorem dX9_renewRound_82 : decode cX9_renewRound 82 = .ok (.iinc 3 1, 3) := by decide +kernel
theorem dX9_renewRound_85 : decode cX9_renewRound 85 = .ok (.iinc 4 1, 3) := by decide +kernel
theorem dX9_renewRound_88 : decode cX9_renewRound 88 = .ok (.goto (-78), 3) := by decide +kernel
theorem dX9_renewRound_91 : decode cX9_renewRound 91 = .ok (.iload_n 3, 1) := by decide +kernel
theorem dX9_renewRound_92 : decode cX9_renewRound 92 = .ok (.ireturn, 1) := by decide +kernel
theorem dX9_staleModules_0 : decode cX9_staleModules 0 = .ok (.iconst 0, 1) := by decide +kernel
theorem dX9_staleModules_1 : decode cX9_staleModules 1 = .ok (.istore_n 1, 1) := by decide +kernel
theorem dX9_staleModules_2 : decode cX9_staleModules 2 = .ok (.iconst 0, 1) := by decide +kernel
theorem dX9_staleModules_3 : decode cX9_staleModules 3 = .ok (.istore_n 2, 1) := by decide +kernel
theorem dX9_staleModules_4 : decode cX9_staleModules 4 = .ok (.iload_n 2, 1) := by decide +kernel
theorem dX9_staleModules_5 : decode cX9_staleModules 5 = .ok (.aload_n 0, 1) := by decide +kernel
theorem dX9_staleModules_6 : decode cX9_staleModules 6 = .ok (.getfield 25, 3) := by decide +kernel
theorem dX9_staleModules_9 : decode cX9_staleModules 9 = .ok (.getfield 77, 3) := by decide +kernel
theorem dX9_staleModules_12 : decode cX9_staleModules 12 = .ok (.if_icmp .ge 37, 3) := by decide +kernel
theorem dX9_staleModules_15 : decode cX9_staleModules 15 = .ok (.aload_n 0, 1) := by decide +kernel
theorem dX9_staleModules_16 : decode cX9_staleModules 16 = .ok (.aload_n 0, 1) := by decide +kernel
theorem dX9_staleModules_17 : decode cX9_staleModules 17 = .ok (.getfield 25, 3) := by decide +kernel
theorem dX9_staleModules_20 : decode cX9_staleModules 20 = .ok (.getfield 83, 3) := by decide +kernel
theorem dX9_staleModules_23 : decode cX9_staleModules 23 = .ok (.iload_n 2, 1) := by decide +kernel
theorem dX9_staleModules_24 : decode cX9_staleModules 24 = .ok (.iaload, 1) := by decide +kernel
theorem dX9_staleModules_25 : decode cX9_staleModules 25 = .ok (.invokevirtual 86, 3) := by decide +kernel
theorem dX9_staleModules_28 : decode cX9_staleModules 28 = .ok (.ifCond .eq 15, 3) := by decide +kernel
theorem dX9_staleModules_31 : decode cX9_staleModules 31 = .ok (.iload_n 1, 1) := by decide +kernel
theorem dX9_staleModules_32 : decode cX9_staleModules 32 = .ok (.aload_n 0, 1) := by decide +kernel
theorem dX9_staleModules_33 : decode cX9_staleModules 33 = .ok (.getfield 25, 3) := by decide +kernel
theorem dX9_staleModules_36 : decode cX9_staleModules 36 = .ok (.getfield 83, 3) := by decide +kernel
theorem dX9_staleModules_39 : decode cX9_staleModules 39 = .ok (.iload_n 2, 1) := by decide +kernel
theorem dX9_staleModules_40 : decode cX9_staleModules 40 = .ok (.iaload, 1) := by decide +kernel
theorem dX9_staleModules_41 : decode cX9_staleModules 41 = .ok (.ior, 1) := by decide +kernel
theorem dX9_staleModules_42 : decode cX9_staleModules 42 = .ok (.istore_n 1, 1) := by decide +kernel
theorem dX9_staleModules_43 : decode cX9_staleModules 43 = .ok (.iinc 2 1, 3) := by decide +kernel
theorem dX9_staleModules_46 : decode cX9_staleModules 46 = .ok (.goto (-42), 3) := by decide +kernel
theorem dX9_staleModules_49 : decode cX9_staleModules 49 = .ok (.iload_n 1, 1) := by decide +kernel
theorem dX9_staleModules_50 : decode cX9_staleModules 50 = .ok (.ireturn, 1) := by decide +kernel
theorem dX9_renew_0 : decode cX9_renew 0 = .ok (.aload_n 0, 1) := by decide +kernel
theorem dX9_renew_1 : decode cX9_renew 1 = .ok (.iload_n 1, 1) := by decide +kernel
theorem dX9_renew_2 : decode cX9_renew 2 = .ok (.invokevirtual 148, 3) := by decide +kernel
theorem dX9_renew_5 : decode cX9_renew 5 = .ok (.istore_n 2, 1) := by decide +kernel
theorem dX9_renew_6 : decode cX9_renew 6 = .ok (.iload_n 2, 1) := by decide +kernel
theorem dX9_renew_7 : decode cX9_renew 7 = .ok (.iconst (-1), 1) := by decide +kernel
theorem dX9_renew_8 : decode cX9_renew 8 = .ok (.if_icmp .eq 7, 3) := by decide +kernel
theorem dX9_renew_11 : decode cX9_renew 11 = .ok (.iconst 1, 1) := by decide +kernel
theorem dX9_renew_12 : decode cX9_renew 12 = .ok (.goto 4, 3) := by decide +kernel
theorem dX9_renew_15 : decode cX9_renew 15 = .ok (.iconst 0, 1) := by decide +kernel
theorem dX9_renew_16 : decode cX9_renew 16 = .ok (.istore_n 3, 1) := by decide +kernel
theorem dX9_renew_17 : decode cX9_renew 17 = .ok (.iload_n 3, 1) := by decide +kernel
theorem dX9_renew_18 : decode cX9_renew 18 = .ok (.ifCond .eq 25, 3) := by decide +kernel
theorem dX9_renew_21 : decode cX9_renew 21 = .ok (.aload_n 0, 1) := by decide +kernel
theorem dX9_renew_22 : decode cX9_renew 22 = .ok (.getfield 34, 3) := by decide +kernel
theorem dX9_renew_25 : decode cX9_renew 25 = .ok (.getfield 151, 3) := by decide +kernel
theorem dX9_renew_28 : decode cX9_renew 28 = .ok (.iload_n 2, 1) := by decide +kernel
theorem dX9_renew_29 : decode cX9_renew 29 = .ok (.aaload, 1) := by decide +kernel
theorem dX9_renew_30 : decode cX9_renew 30 = .ok (.astore 4, 2) := by decide +kernel
theorem dX9_renew_32 : decode cX9_renew 32 = .ok (.aload_n 0, 1) := by decide +kernel
theorem dX9_renew_33 : decode cX9_renew 33 = .ok (.getfield 34, 3) := by decide +kernel
theorem dX9_renew_36 : decode cX9_renew 36 = .ok (.iload_n 2, 1) := by decide +kernel
theorem dX9_renew_37 : decode cX9_renew 37 = .ok (.invokevirtual 154, 3) := by decide +kernel
theorem dX9_renew_40 : decode cX9_renew 40 = .ok (.goto 47, 3) := by decide +kernel
theorem dX9_renew_43 : decode cX9_renew 43 = .ok (.aload_n 0, 1) := by decide +kernel
theorem dX9_renew_44 : decode cX9_renew 44 = .ok (.invokevirtual 157, 3) := by decide +kernel
theorem dX9_renew_47 : decode cX9_renew 47 = .ok (.astore 4, 2) := by decide +kernel
theorem dX9_renew_49 : decode cX9_renew 49 = .ok (.aload 4, 2) := by decide +kernel
theorem dX9_renew_51 : decode cX9_renew 51 = .ok (.iload_n 1, 1) := by decide +kernel
theorem dX9_renew_52 : decode cX9_renew 52 = .ok (.aload_n 0, 1) := by decide +kernel
theorem dX9_renew_53 : decode cX9_renew 53 = .ok (.getfield 17, 3) := by decide +kernel
theorem dX9_renew_56 : decode cX9_renew 56 = .ok (.invokevirtual 161, 3) := by decide +kernel
theorem dX9_renew_59 : decode cX9_renew 59 = .ok (.aload_n 0, 1) := by decide +kernel
theorem dX9_renew_60 : decode cX9_renew 60 = .ok (.aload 4, 2) := by decide +kernel
theorem dX9_renew_62 : decode cX9_renew 62 = .ok (.invokevirtual 165, 3) := by decide +kernel
theorem dX9_renew_65 : decode cX9_renew 65 = .ok (.aload_n 0, 1) := by decide +kernel
theorem dX9_renew_66 : decode cX9_renew 66 = .ok (.getfield 51, 3) := by decide +kernel
theorem dX9_renew_69 : decode cX9_renew 69 = .ok (.aload 4, 2) := by decide +kernel
theorem dX9_renew_71 : decode cX9_renew 71 = .ok (.aload_n 0, 1) := by decide +kernel
theorem dX9_renew_72 : decode cX9_renew 72 = .ok (.getfield 11, 3) := by decide +kernel
theorem dX9_renew_75 : decode cX9_renew 75 = .ok (.invokevirtual 169, 3) := by decide +kernel
theorem dX9_renew_78 : decode cX9_renew 78 = .ok (.aload_n 0, 1) := by decide +kernel
theorem dX9_renew_79 : decode cX9_renew 79 = .ok (.getfield 34, 3) := by decide +kernel
theorem dX9_renew_82 : decode cX9_renew 82 = .ok (.aload 4, 2) := by decide +kernel
theorem dX9_renew_84 : decode cX9_renew 84 = .ok (.invokevirtual 173, 3) := by decide +kernel
theorem dX9_renew_87 : decode cX9_renew 87 = .ok (.iconst 0, 1) := by decide +kernel
theorem dX9_renew_88 : decode cX9_renew 88 = .ok (.istore 5, 2) := by decide +kernel
theorem dX9_renew_90 : decode cX9_renew 90 = .ok (.iload 5, 2) := by decide +kernel
theorem dX9_renew_92 : decode cX9_renew 92 = .ok (.bipush 8, 2) := by decide +kernel
theorem dX9_renew_94 : decode cX9_renew 94 = .ok (.if_icmp .ge 27, 3) := by decide +kernel
theorem dX9_renew_97 : decode cX9_renew 97 = .ok (.iload_n 1, 1) := by decide +kernel
theorem dX9_renew_98 : decode cX9_renew 98 = .ok (.iload 5, 2) := by decide +kernel
theorem dX9_renew_100 : decode cX9_renew 100 = .ok (.invokestatic 109, 3) := by decide +kernel
theorem dX9_renew_103 : decode cX9_renew 103 = .ok (.ifCond .eq 12, 3) := by decide +kernel
theorem dX9_renew_106 : decode cX9_renew 106 = .ok (.aload_n 0, 1) := by decide +kernel
theorem dX9_renew_107 : decode cX9_renew 107 = .ok (.getfield 11, 3) := by decide +kernel
theorem dX9_renew_110 : decode cX9_renew 110 = .ok (.iload 5, 2) := by decide +kernel
theorem dX9_renew_112 : decode cX9_renew 112 = .ok (.aload 4, 2) := by decide +kernel
theorem dX9_renew_114 : decode cX9_renew 114 = .ok (.aastore, 1) := by decide +kernel
theorem dX9_renew_115 : decode cX9_renew 115 = .ok (.iinc 5 1, 3) := by decide +kernel
theorem dX9_renew_118 : decode cX9_renew 118 = .ok (.goto (-28), 3) := by decide +kernel
theorem dX9_renew_121 : decode cX9_renew 121 = .ok (.iload_n 3, 1) := by decide +kernel
theorem dX9_renew_122 : decode cX9_renew 122 = .ok (.ireturn, 1) := by decide +kernel
theorem dX9_placeInStore_0 : decode cX9_placeInStore 0 = .ok (.aload_n 0, 1) := by decide +kernel
theorem dX9_placeInStore_1 : decode cX9_placeInStore 1 = .ok (.getfield 34, 3) := by decide +kernel
theorem dX9_placeInStore_4 : decode cX9_placeInStore 4 = .ok (.getfield 176, 3) := by decide +kernel
theorem dX9_placeInStore_7 : decode cX9_placeInStore 7 = .ok (.iconst 1, 1) := by decide +kernel
theorem dX9_placeInStore_8 : decode cX9_placeInStore 8 = .ok (.isub, 1) := by decide +kernel
theorem dX9_placeInStore_9 : decode cX9_placeInStore 9 = .ok (.istore_n 2, 1) := by decide +kernel
theorem dX9_placeInStore_10 : decode cX9_placeInStore 10 = .ok (.iload_n 2, 1) := by decide +kernel
theorem dX9_placeInStore_11 : decode cX9_placeInStore 11 = .ok (.ifCond .lt 47, 3) := by decide +kernel
theorem dX9_placeInStore_14 : decode cX9_placeInStore 14 = .ok (.aload_n 0, 1) := by decide +kernel
theorem dX9_placeInStore_15 : decode cX9_placeInStore 15 = .ok (.getfield 34, 3) := by decide +kernel
theorem dX9_placeInStore_18 : decode cX9_placeInStore 18 = .ok (.getfield 151, 3) := by decide +kernel
theorem dX9_placeInStore_21 : decode cX9_placeInStore 21 = .ok (.iload_n 2, 1) := by decide +kernel
theorem dX9_placeInStore_22 : decode cX9_placeInStore 22 = .ok (.aaload, 1) := by decide +kernel
theorem dX9_placeInStore_23 : decode cX9_placeInStore 23 = .ok (.astore_n 3, 1) := by decide +kernel
theorem dX9_placeInStore_24 : decode cX9_placeInStore 24 = .ok (.aload_n 3, 1) := by decide +kernel
theorem dX9_placeInStore_25 : decode cX9_placeInStore 25 = .ok (.getfield 113, 3) := by decide +kernel
theorem dX9_placeInStore_28 : decode cX9_placeInStore 28 = .ok (.iload_n 1, 1) := by decide +kernel
theorem dX9_placeInStore_29 : decode cX9_placeInStore 29 = .ok (.if_icmp .ne 23, 3) := by decide +kernel
theorem dX9_placeInStore_32 : decode cX9_placeInStore 32 = .ok (.aload_n 0, 1) := by decide +kernel
theorem dX9_placeInStore_33 : decode cX9_placeInStore 33 = .ok (.aload_n 3, 1) := by decide +kernel
theorem dX9_placeInStore_34 : decode cX9_placeInStore 34 = .ok (.invokevirtual 99, 3) := by decide +kernel
theorem dX9_placeInStore_37 : decode cX9_placeInStore 37 = .ok (.iconst (-1), 1) := by decide +kernel
theorem dX9_placeInStore_38 : decode cX9_placeInStore 38 = .ok (.if_icmp .ne 14, 3) := by decide +kernel
theorem dX9_placeInStore_41 : decode cX9_placeInStore 41 = .ok (.aload_n 0, 1) := by decide +kernel
theorem dX9_placeInStore_42 : decode cX9_placeInStore 42 = .ok (.aload_n 3, 1) := by decide +kernel
theorem dX9_placeInStore_43 : decode cX9_placeInStore 43 = .ok (.invokevirtual 103, 3) := by decide +kernel
theorem dX9_placeInStore_46 : decode cX9_placeInStore 46 = .ok (.iconst (-1), 1) := by decide +kernel
theorem dX9_placeInStore_47 : decode cX9_placeInStore 47 = .ok (.if_icmp .ne 5, 3) := by decide +kernel
theorem dX9_placeInStore_50 : decode cX9_placeInStore 50 = .ok (.iload_n 2, 1) := by decide +kernel
theorem dX9_placeInStore_51 : decode cX9_placeInStore 51 = .ok (.ireturn, 1) := by decide +kernel
theorem dX9_placeInStore_52 : decode cX9_placeInStore 52 = .ok (.iinc 2 (-1), 3) := by decide +kernel
theorem dX9_placeInStore_55 : decode cX9_placeInStore 55 = .ok (.goto (-45), 3) := by decide +kernel
theorem dX9_placeInStore_58 : decode cX9_placeInStore 58 = .ok (.iconst (-1), 1) := by decide +kernel
theorem dX9_placeInStore_59 : decode cX9_placeInStore 59 = .ok (.ireturn, 1) := by decide +kernel
theorem dX9_freeResult_0 : decode cX9_freeResult 0 = .ok (.aload_n 0, 1) := by decide +kernel
theorem dX9_freeResult_1 : decode cX9_freeResult 1 = .ok (.getfield 43, 3) := by decide +kernel
theorem dX9_freeResult_4 : decode cX9_freeResult 4 = .ok (.iconst 0, 1) := by decide +kernel
theorem dX9_freeResult_5 : decode cX9_freeResult 5 = .ok (.aaload, 1) := by decide +kernel
theorem dX9_freeResult_6 : decode cX9_freeResult 6 = .ok (.astore_n 1, 1) := by decide +kernel
theorem dX9_freeResult_7 : decode cX9_freeResult 7 = .ok (.iconst 1, 1) := by decide +kernel
theorem dX9_freeResult_8 : decode cX9_freeResult 8 = .ok (.istore_n 2, 1) := by decide +kernel
theorem dX9_freeResult_9 : decode cX9_freeResult 9 = .ok (.iload_n 2, 1) := by decide +kernel
theorem dX9_freeResult_10 : decode cX9_freeResult 10 = .ok (.aload_n 0, 1) := by decide +kernel
theorem dX9_freeResult_11 : decode cX9_freeResult 11 = .ok (.getfield 43, 3) := by decide +kernel
theorem dX9_freeResult_14 : decode cX9_freeResult 14 = .ok (.arraylength, 1) := by decide +kernel
theorem dX9_freeResult_15 : decode cX9_freeResult 15 = .ok (.if_icmp .ge 24, 3) := by decide +kernel
theorem dX9_freeResult_18 : decode cX9_freeResult 18 = .ok (.aload_n 0, 1) := by decide +kernel
theorem dX9_freeResult_19 : decode cX9_freeResult 19 = .ok (.aload_n 1, 1) := by decide +kernel
theorem dX9_freeResult_20 : decode cX9_freeResult 20 = .ok (.invokevirtual 177, 3) := by decide +kernel
theorem dX9_freeResult_23 : decode cX9_freeResult 23 = .ok (.ifCond .eq 16, 3) := by decide +kernel
theorem dX9_freeResult_26 : decode cX9_freeResult 26 = .ok (.aload_n 0, 1) := by decide +kernel
theorem dX9_freeResult_27 : decode cX9_freeResult 27 = .ok (.getfield 43, 3) := by decide +kernel
theorem dX9_freeResult_30 : decode cX9_freeResult 30 = .ok (.iload_n 2, 1) := by decide +kernel
theorem dX9_freeResult_31 : decode cX9_freeResult 31 = .ok (.aaload, 1) := by decide +kernel
theorem dX9_freeResult_32 : decode cX9_freeResult 32 = .ok (.astore_n 1, 1) := by decide +kernel
theorem dX9_freeResult_33 : decode cX9_freeResult 33 = .ok (.iinc 2 1, 3) := by decide +kernel
theorem dX9_freeResult_36 : decode cX9_freeResult 36 = .ok (.goto (-27), 3) := by decide +kernel
theorem dX9_freeResult_39 : decode cX9_freeResult 39 = .ok (.aload_n 1, 1) := by decide +kernel
theorem dX9_freeResult_40 : decode cX9_freeResult 40 = .ok (.areturn, 1) := by decide +kernel
theorem dX9_isHeld_0 : decode cX9_isHeld 0 = .ok (.iconst 0, 1) := by decide +kernel
theorem dX9_isHeld_1 : decode cX9_isHeld 1 = .ok (.istore_n 2, 1) := by decide +kernel
theorem dX9_isHeld_2 : decode cX9_isHeld 2 = .ok (.iload_n 2, 1) := by decide +kernel
theorem dX9_isHeld_3 : decode cX9_isHeld 3 = .ok (.bipush 8, 2) := by decide +kernel
theorem dX9_isHeld_5 : decode cX9_isHeld 5 = .ok (.if_icmp .ge 21, 3) := by decide +kernel
theorem dX9_isHeld_8 : decode cX9_isHeld 8 = .ok (.aload_n 0, 1) := by decide +kernel
theorem dX9_isHeld_9 : decode cX9_isHeld 9 = .ok (.getfield 11, 3) := by decide +kernel
theorem dX9_isHeld_12 : decode cX9_isHeld 12 = .ok (.iload_n 2, 1) := by decide +kernel
end
section
theorem dX9_isHeld_13 : decode cX9_isHeld 13 = .ok (.aaload, 1) := by decide +kernel
theorem dX9_isHeld_14 : decode cX9_isHeld 14 = .ok (.aload_n 1, 1) := by decide +kernel
theorem dX9_isHeld_15 : decode cX9_isHeld 15 = .ok (.if_acmp .ne 5, 3) := by decide +kernel
theorem dX9_isHeld_18 : decode cX9_isHeld 18 = .ok (.iconst 1, 1) := by decide +kernel
theorem dX9_isHeld_19 : decode cX9_isHeld 19 = .ok (.ireturn, 1) := by decide +kernel
theorem dX9_isHeld_20 : decode cX9_isHeld 20 = .ok (.iinc 2 1, 3) := by decide +kernel
theorem dX9_isHeld_23 : decode cX9_isHeld 23 = .ok (.goto (-21), 3) := by decide +kernel
theorem dX9_isHeld_26 : decode cX9_isHeld 26 = .ok (.aload_n 0, 1) := by decide +kernel
theorem dX9_isHeld_27 : decode cX9_isHeld 27 = .ok (.getfield 34, 3) := by decide +kernel
theorem dX9_isHeld_30 : decode cX9_isHeld 30 = .ok (.aload_n 1, 1) := by decide +kernel
theorem dX9_isHeld_31 : decode cX9_isHeld 31 = .ok (.invokevirtual 181, 3) := by decide +kernel
theorem dX9_isHeld_34 : decode cX9_isHeld 34 = .ok (.ireturn, 1) := by decide +kernel
theorem dX9_noteAnswers_0 : decode cX9_noteAnswers 0 = .ok (.iconst 0, 1) := by decide +kernel
theorem dX9_noteAnswers_1 : decode cX9_noteAnswers 1 = .ok (.istore_n 2, 1) := by decide +kernel
theorem dX9_noteAnswers_2 : decode cX9_noteAnswers 2 = .ok (.iload_n 2, 1) := by decide +kernel
theorem dX9_noteAnswers_3 : decode cX9_noteAnswers 3 = .ok (.bipush 8, 2) := by decide +kernel
theorem dX9_noteAnswers_5 : decode cX9_noteAnswers 5 = .ok (.if_icmp .ge 62, 3) := by decide +kernel
theorem dX9_noteAnswers_8 : decode cX9_noteAnswers 8 = .ok (.iconst 0, 1) := by decide +kernel
theorem dX9_noteAnswers_9 : decode cX9_noteAnswers 9 = .ok (.istore_n 3, 1) := by decide +kernel
theorem dX9_noteAnswers_10 : decode cX9_noteAnswers 10 = .ok (.iload_n 3, 1) := by decide +kernel
theorem dX9_noteAnswers_11 : decode cX9_noteAnswers 11 = .ok (.sipush 128, 3) := by decide +kernel
theorem dX9_noteAnswers_14 : decode cX9_noteAnswers 14 = .ok (.if_icmp .ge 47, 3) := by decide +kernel
theorem dX9_noteAnswers_17 : decode cX9_noteAnswers 17 = .ok (.aload_n 1, 1) := by decide +kernel
theorem dX9_noteAnswers_18 : decode cX9_noteAnswers 18 = .ok (.getfield 113, 3) := by decide +kernel
theorem dX9_noteAnswers_21 : decode cX9_noteAnswers 21 = .ok (.iload_n 2, 1) := by decide +kernel
theorem dX9_noteAnswers_22 : decode cX9_noteAnswers 22 = .ok (.invokestatic 109, 3) := by decide +kernel
theorem dX9_noteAnswers_25 : decode cX9_noteAnswers 25 = .ok (.ifCond .eq 36, 3) := by decide +kernel
theorem dX9_noteAnswers_28 : decode cX9_noteAnswers 28 = .ok (.aload_n 0, 1) := by decide +kernel
theorem dX9_noteAnswers_29 : decode cX9_noteAnswers 29 = .ok (.getfield 21, 3) := by decide +kernel
theorem dX9_noteAnswers_32 : decode cX9_noteAnswers 32 = .ok (.iload_n 2, 1) := by decide +kernel
theorem dX9_noteAnswers_33 : decode cX9_noteAnswers 33 = .ok (.iload_n 3, 1) := by decide +kernel
theorem dX9_noteAnswers_34 : decode cX9_noteAnswers 34 = .ok (.invokevirtual 184, 3) := by decide +kernel
theorem dX9_noteAnswers_37 : decode cX9_noteAnswers 37 = .ok (.ifCond .eq 18, 3) := by decide +kernel
theorem dX9_noteAnswers_40 : decode cX9_noteAnswers 40 = .ok (.aload_n 1, 1) := by decide +kernel
theorem dX9_noteAnswers_41 : decode cX9_noteAnswers 41 = .ok (.getfield 120, 3) := by decide +kernel
theorem dX9_noteAnswers_44 : decode cX9_noteAnswers 44 = .ok (.iload_n 3, 1) := by decide +kernel
theorem dX9_noteAnswers_45 : decode cX9_noteAnswers 45 = .ok (.aload_n 0, 1) := by decide +kernel
theorem dX9_noteAnswers_46 : decode cX9_noteAnswers 46 = .ok (.iload_n 3, 1) := by decide +kernel
theorem dX9_noteAnswers_47 : decode cX9_noteAnswers 47 = .ok (.aload_n 1, 1) := by decide +kernel
theorem dX9_noteAnswers_48 : decode cX9_noteAnswers 48 = .ok (.getfield 113, 3) := by decide +kernel
theorem dX9_noteAnswers_51 : decode cX9_noteAnswers 51 = .ok (.invokevirtual 126, 3) := by decide +kernel
theorem dX9_noteAnswers_54 : decode cX9_noteAnswers 54 = .ok (.lastore, 1) := by decide +kernel
theorem dX9_noteAnswers_55 : decode cX9_noteAnswers 55 = .ok (.iinc 3 1, 3) := by decide +kernel
theorem dX9_noteAnswers_58 : decode cX9_noteAnswers 58 = .ok (.goto (-48), 3) := by decide +kernel
theorem dX9_noteAnswers_61 : decode cX9_noteAnswers 61 = .ok (.iinc 2 1, 3) := by decide +kernel
theorem dX9_noteAnswers_64 : decode cX9_noteAnswers 64 = .ok (.goto (-62), 3) := by decide +kernel
theorem dX9_noteAnswers_67 : decode cX9_noteAnswers 67 = .ok (.return_, 1) := by decide +kernel
theorem dX10_init_0 : decode cX10_init 0 = .ok (.aload_n 0, 1) := by decide +kernel
theorem dX10_init_1 : decode cX10_init 1 = .ok (.invokespecial 3, 3) := by decide +kernel
theorem dX10_init_4 : decode cX10_init 4 = .ok (.aload_n 0, 1) := by decide +kernel
theorem dX10_init_5 : decode cX10_init 5 = .ok (.new 9, 3) := by decide +kernel
theorem dX10_init_8 : decode cX10_init 8 = .ok (.dup, 1) := by decide +kernel
theorem dX10_init_9 : decode cX10_init 9 = .ok (.invokespecial 11, 3) := by decide +kernel
theorem dX10_init_12 : decode cX10_init 12 = .ok (.putfield 12, 3) := by decide +kernel
theorem dX10_init_15 : decode cX10_init 15 = .ok (.aload_n 0, 1) := by decide +kernel
theorem dX10_init_16 : decode cX10_init 16 = .ok (.new 16, 3) := by decide +kernel
theorem dX10_init_19 : decode cX10_init 19 = .ok (.dup, 1) := by decide +kernel
theorem dX10_init_20 : decode cX10_init 20 = .ok (.aload_n 0, 1) := by decide +kernel
theorem dX10_init_21 : decode cX10_init 21 = .ok (.getfield 12, 3) := by decide +kernel
theorem dX10_init_24 : decode cX10_init 24 = .ok (.invokespecial 18, 3) := by decide +kernel
theorem dX10_init_27 : decode cX10_init 27 = .ok (.putfield 21, 3) := by decide +kernel
theorem dX10_init_30 : decode cX10_init 30 = .ok (.aload_n 0, 1) := by decide +kernel
theorem dX10_init_31 : decode cX10_init 31 = .ok (.new 25, 3) := by decide +kernel
theorem dX10_init_34 : decode cX10_init 34 = .ok (.dup, 1) := by decide +kernel
theorem dX10_init_35 : decode cX10_init 35 = .ok (.aload_n 0, 1) := by decide +kernel
theorem dX10_init_36 : decode cX10_init 36 = .ok (.getfield 12, 3) := by decide +kernel
theorem dX10_init_39 : decode cX10_init 39 = .ok (.invokespecial 27, 3) := by decide +kernel
theorem dX10_init_42 : decode cX10_init 42 = .ok (.putfield 28, 3) := by decide +kernel
theorem dX10_init_45 : decode cX10_init 45 = .ok (.aload_n 0, 1) := by decide +kernel
theorem dX10_init_46 : decode cX10_init 46 = .ok (.new 32, 3) := by decide +kernel
theorem dX10_init_49 : decode cX10_init 49 = .ok (.dup, 1) := by decide +kernel
theorem dX10_init_50 : decode cX10_init 50 = .ok (.aload_n 0, 1) := by decide +kernel
theorem dX10_init_51 : decode cX10_init 51 = .ok (.getfield 12, 3) := by decide +kernel
theorem dX10_init_54 : decode cX10_init 54 = .ok (.aload_n 0, 1) := by decide +kernel
theorem dX10_init_55 : decode cX10_init 55 = .ok (.getfield 21, 3) := by decide +kernel
theorem dX10_init_58 : decode cX10_init 58 = .ok (.aload_n 0, 1) := by decide +kernel
theorem dX10_init_59 : decode cX10_init 59 = .ok (.getfield 28, 3) := by decide +kernel
theorem dX10_init_62 : decode cX10_init 62 = .ok (.bipush 10, 2) := by decide +kernel
theorem dX10_init_64 : decode cX10_init 64 = .ok (.invokespecial 34, 3) := by decide +kernel
theorem dX10_init_67 : decode cX10_init 67 = .ok (.putfield 37, 3) := by decide +kernel
theorem dX10_init_70 : decode cX10_init 70 = .ok (.aload_n 0, 1) := by decide +kernel
theorem dX10_init_71 : decode cX10_init 71 = .ok (.new 32, 3) := by decide +kernel
theorem dX10_init_74 : decode cX10_init 74 = .ok (.dup, 1) := by decide +kernel
theorem dX10_init_75 : decode cX10_init 75 = .ok (.new 9, 3) := by decide +kernel
theorem dX10_init_78 : decode cX10_init 78 = .ok (.dup, 1) := by decide +kernel
theorem dX10_init_79 : decode cX10_init 79 = .ok (.invokespecial 11, 3) := by decide +kernel
theorem dX10_init_82 : decode cX10_init 82 = .ok (.aload_n 0, 1) := by decide +kernel
theorem dX10_init_83 : decode cX10_init 83 = .ok (.getfield 21, 3) := by decide +kernel
theorem dX10_init_86 : decode cX10_init 86 = .ok (.aload_n 0, 1) := by decide +kernel
theorem dX10_init_87 : decode cX10_init 87 = .ok (.getfield 28, 3) := by decide +kernel
theorem dX10_init_90 : decode cX10_init 90 = .ok (.iconst 0, 1) := by decide +kernel
theorem dX10_init_91 : decode cX10_init 91 = .ok (.invokespecial 34, 3) := by decide +kernel
theorem dX10_init_94 : decode cX10_init 94 = .ok (.putfield 41, 3) := by decide +kernel
theorem dX10_init_97 : decode cX10_init 97 = .ok (.aload_n 0, 1) := by decide +kernel
theorem dX10_init_98 : decode cX10_init 98 = .ok (.sipush 800, 3) := by decide +kernel
theorem dX10_init_101 : decode cX10_init 101 = .ok (.newarray .int, 2) := by decide +kernel
theorem dX10_init_103 : decode cX10_init 103 = .ok (.putfield 44, 3) := by decide +kernel
theorem dX10_init_106 : decode cX10_init 106 = .ok (.aload_n 0, 1) := by decide +kernel
theorem dX10_init_107 : decode cX10_init 107 = .ok (.bipush 8, 2) := by decide +kernel
theorem dX10_init_109 : decode cX10_init 109 = .ok (.newarray .int, 2) := by decide +kernel
theorem dX10_init_111 : decode cX10_init 111 = .ok (.putfield 48, 3) := by decide +kernel
theorem dX10_init_114 : decode cX10_init 114 = .ok (.aload_n 0, 1) := by decide +kernel
theorem dX10_init_115 : decode cX10_init 115 = .ok (.bipush 8, 2) := by decide +kernel
theorem dX10_init_117 : decode cX10_init 117 = .ok (.newarray .int, 2) := by decide +kernel
theorem dX10_init_119 : decode cX10_init 119 = .ok (.putfield 51, 3) := by decide +kernel
theorem dX10_init_122 : decode cX10_init 122 = .ok (.return_, 1) := by decide +kernel
theorem dX10_module_0 : decode cX10_module 0 = .ok (.aload_n 0, 1) := by decide +kernel
theorem dX10_module_1 : decode cX10_module 1 = .ok (.getfield 12, 3) := by decide +kernel
theorem dX10_module_4 : decode cX10_module 4 = .ok (.getfield 54, 3) := by decide +kernel
theorem dX10_module_7 : decode cX10_module 7 = .ok (.bipush 8, 2) := by decide +kernel
theorem dX10_module_9 : decode cX10_module 9 = .ok (.if_icmp .lt 13, 3) := by decide +kernel
theorem dX10_module_12 : decode cX10_module 12 = .ok (.new 58, 3) := by decide +kernel
theorem dX10_module_15 : decode cX10_module 15 = .ok (.dup, 1) := by decide +kernel
theorem dX10_module_16 : decode cX10_module 16 = .ok (.ldc 60, 2) := by decide +kernel
theorem dX10_module_18 : decode cX10_module 18 = .ok (.invokespecial 62, 3) := by decide +kernel
theorem dX10_module_21 : decode cX10_module 21 = .ok (.athrow, 1) := by decide +kernel
theorem dX10_module_22 : decode cX10_module 22 = .ok (.aload_n 0, 1) := by decide +kernel
theorem dX10_module_23 : decode cX10_module 23 = .ok (.getfield 12, 3) := by decide +kernel
theorem dX10_module_26 : decode cX10_module 26 = .ok (.dup, 1) := by decide +kernel
theorem dX10_module_27 : decode cX10_module 27 = .ok (.getfield 54, 3) := by decide +kernel
theorem dX10_module_30 : decode cX10_module 30 = .ok (.iconst 1, 1) := by decide +kernel
theorem dX10_module_31 : decode cX10_module 31 = .ok (.iadd, 1) := by decide +kernel
theorem dX10_module_32 : decode cX10_module 32 = .ok (.putfield 54, 3) := by decide +kernel
theorem dX10_module_35 : decode cX10_module 35 = .ok (.aload_n 0, 1) := by decide +kernel
theorem dX10_module_36 : decode cX10_module 36 = .ok (.invokevirtual 65, 3) := by decide +kernel
theorem dX10_module_39 : decode cX10_module 39 = .ok (.aload_n 0, 1) := by decide +kernel
theorem dX10_module_40 : decode cX10_module 40 = .ok (.getfield 12, 3) := by decide +kernel
theorem dX10_module_43 : decode cX10_module 43 = .ok (.getfield 54, 3) := by decide +kernel
theorem dX10_module_46 : decode cX10_module 46 = .ok (.iconst 1, 1) := by decide +kernel
theorem dX10_module_47 : decode cX10_module 47 = .ok (.isub, 1) := by decide +kernel
theorem dX10_module_48 : decode cX10_module 48 = .ok (.ireturn, 1) := by decide +kernel
theorem dX10_declare_0 : decode cX10_declare 0 = .ok (.aload_n 0, 1) := by decide +kernel
theorem dX10_declare_1 : decode cX10_declare 1 = .ok (.iload_n 1, 1) := by decide +kernel
theorem dX10_declare_2 : decode cX10_declare 2 = .ok (.invokevirtual 68, 3) := by decide +kernel
theorem dX10_declare_5 : decode cX10_declare 5 = .ok (.iload_n 2, 1) := by decide +kernel
theorem dX10_declare_6 : decode cX10_declare 6 = .ok (.iconst 0, 1) := by decide +kernel
theorem dX10_declare_7 : decode cX10_declare 7 = .ok (.bipush 15, 2) := by decide +kernel
theorem dX10_declare_9 : decode cX10_declare 9 = .ok (.invokestatic 72, 3) := by decide +kernel
theorem dX10_declare_12 : decode cX10_declare 12 = .ok (.iload_n 3, 1) := by decide +kernel
theorem dX10_declare_13 : decode cX10_declare 13 = .ok (.iconst 0, 1) := by decide +kernel
theorem dX10_declare_14 : decode cX10_declare 14 = .ok (.iconst 1, 1) := by decide +kernel
theorem dX10_declare_15 : decode cX10_declare 15 = .ok (.invokestatic 72, 3) := by decide +kernel
theorem dX10_declare_18 : decode cX10_declare 18 = .ok (.iload 5, 2) := by decide +kernel
theorem dX10_declare_20 : decode cX10_declare 20 = .ok (.bipush (-99), 2) := by decide +kernel
theorem dX10_declare_22 : decode cX10_declare 22 = .ok (.bipush 99, 2) := by decide +kernel
theorem dX10_declare_24 : decode cX10_declare 24 = .ok (.invokestatic 72, 3) := by decide +kernel
theorem dX10_declare_27 : decode cX10_declare 27 = .ok (.iload 6, 2) := by decide +kernel
theorem dX10_declare_29 : decode cX10_declare 29 = .ok (.iconst (-1), 1) := by decide +kernel
theorem dX10_declare_30 : decode cX10_declare 30 = .ok (.bipush 15, 2) := by decide +kernel
theorem dX10_declare_32 : decode cX10_declare 32 = .ok (.invokestatic 72, 3) := by decide +kernel
theorem dX10_declare_35 : decode cX10_declare 35 = .ok (.iload 7, 2) := by decide +kernel
theorem dX10_declare_37 : decode cX10_declare 37 = .ok (.iconst (-1), 1) := by decide +kernel
theorem dX10_declare_38 : decode cX10_declare 38 = .ok (.bipush 15, 2) := by decide +kernel
theorem dX10_declare_40 : decode cX10_declare 40 = .ok (.invokestatic 72, 3) := by decide +kernel
theorem dX10_declare_43 : decode cX10_declare 43 = .ok (.iload_n 1, 1) := by decide +kernel
theorem dX10_declare_44 : decode cX10_declare 44 = .ok (.bipush 16, 2) := by decide +kernel
theorem dX10_declare_46 : decode cX10_declare 46 = .ok (.imul, 1) := by decide +kernel
theorem dX10_declare_47 : decode cX10_declare 47 = .ok (.iload_n 2, 1) := by decide +kernel
theorem dX10_declare_48 : decode cX10_declare 48 = .ok (.iadd, 1) := by decide +kernel
theorem dX10_declare_49 : decode cX10_declare 49 = .ok (.istore 8, 2) := by decide +kernel
theorem dX10_declare_51 : decode cX10_declare 51 = .ok (.aload_n 0, 1) := by decide +kernel
theorem dX10_declare_52 : decode cX10_declare 52 = .ok (.getfield 12, 3) := by decide +kernel
theorem dX10_declare_55 : decode cX10_declare 55 = .ok (.iload 8, 2) := by decide +kernel
theorem dX10_declare_57 : decode cX10_declare 57 = .ok (.invokevirtual 76, 3) := by decide +kernel
theorem dX10_declare_60 : decode cX10_declare 60 = .ok (.ifCond .ne 26, 3) := by decide +kernel
theorem dX10_declare_63 : decode cX10_declare 63 = .ok (.aload_n 0, 1) := by decide +kernel
theorem dX10_declare_64 : decode cX10_declare 64 = .ok (.getfield 12, 3) := by decide +kernel
theorem dX10_declare_67 : decode cX10_declare 67 = .ok (.iload_n 1, 1) := by decide +kernel
theorem dX10_declare_68 : decode cX10_declare 68 = .ok (.invokevirtual 80, 3) := by decide +kernel
theorem dX10_declare_71 : decode cX10_declare 71 = .ok (.bipush 6, 2) := by decide +kernel
theorem dX10_declare_73 : decode cX10_declare 73 = .ok (.if_icmp .lt 13, 3) := by decide +kernel
theorem dX10_declare_76 : decode cX10_declare 76 = .ok (.new 58, 3) := by decide +kernel
theorem dX10_declare_79 : decode cX10_declare 79 = .ok (.dup, 1) := by decide +kernel
theorem dX10_declare_80 : decode cX10_declare 80 = .ok (.ldc 84, 2) := by decide +kernel
theorem dX10_declare_82 : decode cX10_declare 82 = .ok (.invokespecial 62, 3) := by decide +kernel
theorem dX10_declare_85 : decode cX10_declare 85 = .ok (.athrow, 1) := by decide +kernel
theorem dX10_declare_86 : decode cX10_declare 86 = .ok (.aload_n 0, 1) := by decide +kernel
theorem dX10_declare_87 : decode cX10_declare 87 = .ok (.getfield 12, 3) := by decide +kernel
theorem dX10_declare_90 : decode cX10_declare 90 = .ok (.getfield 86, 3) := by decide +kernel
theorem dX10_declare_93 : decode cX10_declare 93 = .ok (.iload 8, 2) := by decide +kernel
theorem dX10_declare_95 : decode cX10_declare 95 = .ok (.iload_n 3, 1) := by decide +kernel
theorem dX10_declare_96 : decode cX10_declare 96 = .ok (.iload 4, 2) := by decide +kernel
theorem dX10_declare_98 : decode cX10_declare 98 = .ok (.iload 5, 2) := by decide +kernel
theorem dX10_declare_100 : decode cX10_declare 100 = .ok (.iload 6, 2) := by decide +kernel
theorem dX10_declare_102 : decode cX10_declare 102 = .ok (.iload 7, 2) := by decide +kernel
theorem dX10_declare_104 : decode cX10_declare 104 = .ok (.invokestatic 89, 3) := by decide +kernel
theorem dX10_declare_107 : decode cX10_declare 107 = .ok (.iastore, 1) := by decide +kernel
theorem dX10_declare_108 : decode cX10_declare 108 = .ok (.aload_n 0, 1) := by decide +kernel
theorem dX10_declare_109 : decode cX10_declare 109 = .ok (.invokevirtual 65, 3) := by decide +kernel
theorem dX10_declare_112 : decode cX10_declare 112 = .ok (.aload_n 0, 1) := by decide +kernel
theorem dX10_declare_113 : decode cX10_declare 113 = .ok (.getfield 12, 3) := by decide +kernel
theorem dX10_declare_116 : decode cX10_declare 116 = .ok (.iload_n 1, 1) := by decide +kernel
theorem dX10_declare_117 : decode cX10_declare 117 = .ok (.invokevirtual 80, 3) := by decide +kernel
theorem dX10_declare_120 : decode cX10_declare 120 = .ok (.ireturn, 1) := by decide +kernel
theorem dX10_drop_0 : decode cX10_drop 0 = .ok (.aload_n 0, 1) := by decide +kernel
theorem dX10_drop_1 : decode cX10_drop 1 = .ok (.iload_n 1, 1) := by decide +kernel
theorem dX10_drop_2 : decode cX10_drop 2 = .ok (.invokevirtual 68, 3) := by decide +kernel
theorem dX10_drop_5 : decode cX10_drop 5 = .ok (.iload_n 2, 1) := by decide +kernel
theorem dX10_drop_6 : decode cX10_drop 6 = .ok (.iconst 0, 1) := by decide +kernel
theorem dX10_drop_7 : decode cX10_drop 7 = .ok (.bipush 15, 2) := by decide +kernel
theorem dX10_drop_9 : decode cX10_drop 9 = .ok (.invokestatic 72, 3) := by decide +kernel
theorem dX10_drop_12 : decode cX10_drop 12 = .ok (.iload_n 1, 1) := by decide +kernel
theorem dX10_drop_13 : decode cX10_drop 13 = .ok (.bipush 16, 2) := by decide +kernel
theorem dX10_drop_15 : decode cX10_drop 15 = .ok (.imul, 1) := by decide +kernel
theorem dX10_drop_16 : decode cX10_drop 16 = .ok (.iload_n 2, 1) := by decide +kernel
theorem dX10_drop_17 : decode cX10_drop 17 = .ok (.iadd, 1) := by decide +kernel
theorem dX10_drop_18 : decode cX10_drop 18 = .ok (.istore_n 3, 1) := by decide +kernel
theorem dX10_drop_19 : decode cX10_drop 19 = .ok (.aload_n 0, 1) := by decide +kernel
theorem dX10_drop_20 : decode cX10_drop 20 = .ok (.getfield 12, 3) := by decide +kernel
theorem dX10_drop_23 : decode cX10_drop 23 = .ok (.iload_n 3, 1) := by decide +kernel
theorem dX10_drop_24 : decode cX10_drop 24 = .ok (.invokevirtual 76, 3) := by decide +kernel
theorem dX10_drop_27 : decode cX10_drop 27 = .ok (.istore 4, 2) := by decide +kernel
theorem dX10_drop_29 : decode cX10_drop 29 = .ok (.aload_n 0, 1) := by decide +kernel
theorem dX10_drop_30 : decode cX10_drop 30 = .ok (.getfield 12, 3) := by decide +kernel
theorem dX10_drop_33 : decode cX10_drop 33 = .ok (.getfield 86, 3) := by decide +kernel
theorem dX10_drop_36 : decode cX10_drop 36 = .ok (.iload_n 3, 1) := by decide +kernel
theorem dX10_drop_37 : decode cX10_drop 37 = .ok (.iconst 0, 1) := by decide +kernel
theorem dX10_drop_38 : decode cX10_drop 38 = .ok (.iastore, 1) := by decide +kernel
theorem dX10_drop_39 : decode cX10_drop 39 = .ok (.aload_n 0, 1) := by decide +kernel
theorem dX10_drop_40 : decode cX10_drop 40 = .ok (.invokevirtual 65, 3) := by decide +kernel
theorem dX10_drop_43 : decode cX10_drop 43 = .ok (.iload 4, 2) := by decide +kernel
theorem dX10_drop_45 : decode cX10_drop 45 = .ok (.ireturn, 1) := by decide +kernel
theorem dX10_bring_0 : decode cX10_bring 0 = .ok (.aload_n 0, 1) := by decide +kernel
theorem dX10_bring_1 : decode cX10_bring 1 = .ok (.iload_n 1, 1) := by decide +kernel
theorem dX10_bring_2 : decode cX10_bring 2 = .ok (.invokevirtual 68, 3) := by decide +kernel
theorem dX10_bring_5 : decode cX10_bring 5 = .ok (.iload_n 2, 1) := by decide +kernel
theorem dX10_bring_6 : decode cX10_bring 6 = .ok (.iconst 0, 1) := by decide +kernel
theorem dX10_bring_7 : decode cX10_bring 7 = .ok (.bipush 7, 2) := by decide +kernel
theorem dX10_bring_9 : decode cX10_bring 9 = .ok (.invokestatic 72, 3) := by decide +kernel
theorem dX10_bring_12 : decode cX10_bring 12 = .ok (.iload_n 3, 1) := by decide +kernel
theorem dX10_bring_13 : decode cX10_bring 13 = .ok (.iconst (-1), 1) := by decide +kernel
theorem dX10_bring_14 : decode cX10_bring 14 = .ok (.bipush 15, 2) := by decide +kernel
theorem dX10_bring_16 : decode cX10_bring 16 = .ok (.invokestatic 72, 3) := by decide +kernel
theorem dX10_bring_19 : decode cX10_bring 19 = .ok (.iload 4, 2) := by decide +kernel
theorem dX10_bring_21 : decode cX10_bring 21 = .ok (.iconst 0, 1) := by decide +kernel
theorem dX10_bring_22 : decode cX10_bring 22 = .ok (.bipush 15, 2) := by decide +kernel
theorem dX10_bring_24 : decode cX10_bring 24 = .ok (.invokestatic 72, 3) := by decide +kernel
theorem dX10_bring_27 : decode cX10_bring 27 = .ok (.iload_n 2, 1) := by decide +kernel
theorem dX10_bring_28 : decode cX10_bring 28 = .ok (.iload_n 1, 1) := by decide +kernel
theorem dX10_bring_29 : decode cX10_bring 29 = .ok (.if_icmp .ne 13, 3) := by decide +kernel
theorem dX10_bring_32 : decode cX10_bring 32 = .ok (.new 95, 3) := by decide +kernel
theorem dX10_bring_35 : decode cX10_bring 35 = .ok (.dup, 1) := by decide +kernel
theorem dX10_bring_36 : decode cX10_bring 36 = .ok (.ldc 97, 2) := by decide +kernel
theorem dX10_bring_38 : decode cX10_bring 38 = .ok (.invokespecial 99, 3) := by decide +kernel
theorem dX10_bring_41 : decode cX10_bring 41 = .ok (.athrow, 1) := by decide +kernel
theorem dX10_bring_42 : decode cX10_bring 42 = .ok (.iload_n 3, 1) := by decide +kernel
theorem dX10_bring_43 : decode cX10_bring 43 = .ok (.iconst (-1), 1) := by decide +kernel
theorem dX10_bring_44 : decode cX10_bring 44 = .ok (.if_icmp .ne 18, 3) := by decide +kernel
theorem dX10_bring_47 : decode cX10_bring 47 = .ok (.iload 4, 2) := by decide +kernel
theorem dX10_bring_49 : decode cX10_bring 49 = .ok (.ifCond .eq 13, 3) := by decide +kernel
theorem dX10_bring_52 : decode cX10_bring 52 = .ok (.new 95, 3) := by decide +kernel
theorem dX10_bring_55 : decode cX10_bring 55 = .ok (.dup, 1) := by decide +kernel
theorem dX10_bring_56 : decode cX10_bring 56 = .ok (.ldc 100, 2) := by decide +kernel
theorem dX10_bring_58 : decode cX10_bring 58 = .ok (.invokespecial 99, 3) := by decide +kernel
theorem dX10_bring_61 : decode cX10_bring 61 = .ok (.athrow, 1) := by decide +kernel
theorem dX10_bring_62 : decode cX10_bring 62 = .ok (.aload_n 0, 1) := by decide +kernel
theorem dX10_bring_63 : decode cX10_bring 63 = .ok (.getfield 12, 3) := by decide +kernel
theorem dX10_bring_66 : decode cX10_bring 66 = .ok (.getfield 102, 3) := by decide +kernel
theorem dX10_bring_69 : decode cX10_bring 69 = .ok (.iload_n 1, 1) := by decide +kernel
theorem dX10_bring_70 : decode cX10_bring 70 = .ok (.iaload, 1) := by decide +kernel
theorem dX10_bring_71 : decode cX10_bring 71 = .ok (.iconst 5, 1) := by decide +kernel
theorem dX10_bring_72 : decode cX10_bring 72 = .ok (.if_icmp .lt 13, 3) := by decide +kernel
theorem dX10_bring_75 : decode cX10_bring 75 = .ok (.new 58, 3) := by decide +kernel
theorem dX10_bring_78 : decode cX10_bring 78 = .ok (.dup, 1) := by decide +kernel
theorem dX10_bring_79 : decode cX10_bring 79 = .ok (.ldc 105, 2) := by decide +kernel
theorem dX10_bring_81 : decode cX10_bring 81 = .ok (.invokespecial 62, 3) := by decide +kernel
theorem dX10_bring_84 : decode cX10_bring 84 = .ok (.athrow, 1) := by decide +kernel
theorem dX10_bring_85 : decode cX10_bring 85 = .ok (.aload_n 0, 1) := by decide +kernel
theorem dX10_bring_86 : decode cX10_bring 86 = .ok (.getfield 12, 3) := by decide +kernel
theorem dX10_bring_89 : decode cX10_bring 89 = .ok (.iload_n 1, 1) := by decide +kernel
theorem dX10_bring_90 : decode cX10_bring 90 = .ok (.iload_n 2, 1) := by decide +kernel
theorem dX10_bring_91 : decode cX10_bring 91 = .ok (.iload_n 3, 1) := by decide +kernel
theorem dX10_bring_92 : decode cX10_bring 92 = .ok (.iload 4, 2) := by decide +kernel
theorem dX10_bring_94 : decode cX10_bring 94 = .ok (.iload 5, 2) := by decide +kernel
theorem dX10_bring_96 : decode cX10_bring 96 = .ok (.invokestatic 107, 3) := by decide +kernel
theorem dX10_bring_99 : decode cX10_bring 99 = .ok (.invokevirtual 112, 3) := by decide +kernel
theorem dX10_bring_102 : decode cX10_bring 102 = .ok (.aload_n 0, 1) := by decide +kernel
theorem dX10_bring_103 : decode cX10_bring 103 = .ok (.invokevirtual 65, 3) := by decide +kernel
theorem dX10_bring_106 : decode cX10_bring 106 = .ok (.aload_n 0, 1) := by decide +kernel
theorem dX10_bring_107 : decode cX10_bring 107 = .ok (.getfield 12, 3) := by decide +kernel
theorem dX10_bring_110 : decode cX10_bring 110 = .ok (.getfield 102, 3) := by decide +kernel
theorem dX10_bring_113 : decode cX10_bring 113 = .ok (.iload_n 1, 1) := by decide +kernel
theorem dX10_bring_114 : decode cX10_bring 114 = .ok (.iaload, 1) := by decide +kernel
theorem dX10_bring_115 : decode cX10_bring 115 = .ok (.iconst 1, 1) := by decide +kernel
theorem dX10_bring_116 : decode cX10_bring 116 = .ok (.isub, 1) := by decide +kernel
theorem dX10_bring_117 : decode cX10_bring 117 = .ok (.ireturn, 1) := by decide +kernel
theorem dX10_leave_0 : decode cX10_leave 0 = .ok (.aload_n 0, 1) := by decide +kernel
theorem dX10_leave_1 : decode cX10_leave 1 = .ok (.iload_n 1, 1) := by decide +kernel
theorem dX10_leave_2 : decode cX10_leave 2 = .ok (.invokevirtual 68, 3) := by decide +kernel
theorem dX10_leave_5 : decode cX10_leave 5 = .ok (.iload_n 2, 1) := by decide +kernel
theorem dX10_leave_6 : decode cX10_leave 6 = .ok (.ifCond .lt 16, 3) := by decide +kernel
theorem dX10_leave_9 : decode cX10_leave 9 = .ok (.iload_n 2, 1) := by decide +kernel
theorem dX10_leave_10 : decode cX10_leave 10 = .ok (.aload_n 0, 1) := by decide +kernel
theorem dX10_leave_11 : decode cX10_leave 11 = .ok (.getfield 12, 3) := by decide +kernel
theorem dX10_leave_14 : decode cX10_leave 14 = .ok (.getfield 102, 3) := by decide +kernel
theorem dX10_leave_17 : decode cX10_leave 17 = .ok (.iload_n 1, 1) := by decide +kernel
theorem dX10_leave_18 : decode cX10_leave 18 = .ok (.iaload, 1) := by decide +kernel
theorem dX10_leave_19 : decode cX10_leave 19 = .ok (.if_icmp .lt 13, 3) := by decide +kernel
theorem dX10_leave_22 : decode cX10_leave 22 = .ok (.new 116, 3) := by decide +kernel
theorem dX10_leave_25 : decode cX10_leave 25 = .ok (.dup, 1) := by decide +kernel
theorem dX10_leave_26 : decode cX10_leave 26 = .ok (.ldc 118, 2) := by decide +kernel
theorem dX10_leave_28 : decode cX10_leave 28 = .ok (.invokespecial 120, 3) := by decide +kernel
theorem dX10_leave_31 : decode cX10_leave 31 = .ok (.athrow, 1) := by decide +kernel
theorem dX10_leave_32 : decode cX10_leave 32 = .ok (.aload_n 0, 1) := by decide +kernel
theorem dX10_leave_33 : decode cX10_leave 33 = .ok (.getfield 12, 3) := by decide +kernel
theorem dX10_leave_36 : decode cX10_leave 36 = .ok (.iload_n 1, 1) := by decide +kernel
theorem dX10_leave_37 : decode cX10_leave 37 = .ok (.iload_n 2, 1) := by decide +kernel
theorem dX10_leave_38 : decode cX10_leave 38 = .ok (.invokevirtual 121, 3) := by decide +kernel
theorem dX10_leave_41 : decode cX10_leave 41 = .ok (.aload_n 0, 1) := by decide +kernel
theorem dX10_leave_42 : decode cX10_leave 42 = .ok (.invokevirtual 65, 3) := by decide +kernel
theorem dX10_leave_45 : decode cX10_leave 45 = .ok (.aload_n 0, 1) := by decide +kernel
theorem dX10_leave_46 : decode cX10_leave 46 = .ok (.getfield 12, 3) := by decide +kernel
theorem dX10_leave_49 : decode cX10_leave 49 = .ok (.getfield 102, 3) := by decide +kernel
theorem dX10_leave_52 : decode cX10_leave 52 = .ok (.iload_n 1, 1) := by decide +kernel
theorem dX10_leave_53 : decode cX10_leave 53 = .ok (.iaload, 1) := by decide +kernel
theorem dX10_leave_54 : decode cX10_leave 54 = .ok (.ireturn, 1) := by decide +kernel
theorem dX10_ofModule_0 : decode cX10_ofModule 0 = .ok (.aload_n 0, 1) := by decide +kernel
theorem dX10_ofModule_1 : decode cX10_ofModule 1 = .ok (.iload_n 1, 1) := by decide +kernel
theorem dX10_ofModule_2 : decode cX10_ofModule 2 = .ok (.invokevirtual 68, 3) := by decide +kernel
theorem dX10_ofModule_5 : decode cX10_ofModule 5 = .ok (.iload_n 2, 1) := by decide +kernel
theorem dX10_ofModule_6 : decode cX10_ofModule 6 = .ok (.iconst 0, 1) := by decide +kernel
theorem dX10_ofModule_7 : decode cX10_ofModule 7 = .ok (.bipush 8, 2) := by decide +kernel
theorem dX10_ofModule_9 : decode cX10_ofModule 9 = .ok (.invokestatic 72, 3) := by decide +kernel
theorem dX10_ofModule_12 : decode cX10_ofModule 12 = .ok (.aload_n 0, 1) := by decide +kernel
theorem dX10_ofModule_13 : decode cX10_ofModule 13 = .ok (.getfield 28, 3) := by decide +kernel
theorem dX10_ofModule_16 : decode cX10_ofModule 16 = .ok (.getfield 124, 3) := by decide +kernel
theorem dX10_ofModule_19 : decode cX10_ofModule 19 = .ok (.iload_n 1, 1) := by decide +kernel
theorem dX10_ofModule_20 : decode cX10_ofModule 20 = .ok (.iaload, 1) := by decide +kernel
theorem dX10_ofModule_21 : decode cX10_ofModule 21 = .ok (.istore_n 3, 1) := by decide +kernel
theorem dX10_ofModule_22 : decode cX10_ofModule 22 = .ok (.iload_n 2, 1) := by decide +kernel
theorem dX10_ofModule_23 : decode cX10_ofModule 23 = .ok (.tableswitch 112 0 7 #[45, 54, 64, 69, 79, 89, 98, 105], 45) := by decide +kernel
theorem dX10_ofModule_68 : decode cX10_ofModule 68 = .ok (.aload_n 0, 1) := by decide +kernel
theorem dX10_ofModule_69 : decode cX10_ofModule 69 = .ok (.getfield 12, 3) := by decide +kernel
theorem dX10_ofModule_72 : decode cX10_ofModule 72 = .ok (.iload_n 1, 1) := by decide +kernel
theorem dX10_ofModule_73 : decode cX10_ofModule 73 = .ok (.invokevirtual 80, 3) := by decide +kernel
theorem dX10_ofModule_76 : decode cX10_ofModule 76 = .ok (.ireturn, 1) := by decide +kernel
theorem dX10_ofModule_77 : decode cX10_ofModule 77 = .ok (.aload_n 0, 1) := by decide +kernel
theorem dX10_ofModule_78 : decode cX10_ofModule 78 = .ok (.getfield 12, 3) := by decide +kernel
theorem dX10_ofModule_81 : decode cX10_ofModule 81 = .ok (.getfield 102, 3) := by decide +kernel
theorem dX10_ofModule_84 : decode cX10_ofModule 84 = .ok (.iload_n 1, 1) := by decide +kernel
theorem dX10_ofModule_85 : decode cX10_ofModule 85 = .ok (.iaload, 1) := by decide +kernel
theorem dX10_ofModule_86 : decode cX10_ofModule 86 = .ok (.ireturn, 1) := by decide +kernel
theorem dX10_ofModule_87 : decode cX10_ofModule 87 = .ok (.iload_n 3, 1) := by decide +kernel
theorem dX10_ofModule_88 : decode cX10_ofModule 88 = .ok (.invokestatic 127, 3) := by decide +kernel
theorem dX10_ofModule_91 : decode cX10_ofModule 91 = .ok (.ireturn, 1) := by decide +kernel
theorem dX10_ofModule_92 : decode cX10_ofModule 92 = .ok (.aload_n 0, 1) := by decide +kernel
theorem dX10_ofModule_93 : decode cX10_ofModule 93 = .ok (.getfield 28, 3) := by decide +kernel
theorem dX10_ofModule_96 : decode cX10_ofModule 96 = .ok (.getfield 130, 3) := by decide +kernel
theorem dX10_ofModule_99 : decode cX10_ofModule 99 = .ok (.iload_n 1, 1) := by decide +kernel
theorem dX10_ofModule_100 : decode cX10_ofModule 100 = .ok (.iaload, 1) := by decide +kernel
theorem dX10_ofModule_101 : decode cX10_ofModule 101 = .ok (.ireturn, 1) := by decide +kernel
theorem dX10_ofModule_102 : decode cX10_ofModule 102 = .ok (.aload_n 0, 1) := by decide +kernel
theorem dX10_ofModule_103 : decode cX10_ofModule 103 = .ok (.getfield 28, 3) := by decide +kernel
theorem dX10_ofModule_106 : decode cX10_ofModule 106 = .ok (.getfield 133, 3) := by decide +kernel
theorem dX10_ofModule_109 : decode cX10_ofModule 109 = .ok (.iload_n 1, 1) := by decide +kernel
theorem dX10_ofModule_110 : decode cX10_ofModule 110 = .ok (.iaload, 1) := by decide +kernel
theorem dX10_ofModule_111 : decode cX10_ofModule 111 = .ok (.ireturn, 1) := by decide +kernel
theorem dX10_ofModule_112 : decode cX10_ofModule 112 = .ok (.aload_n 0, 1) := by decide +kernel
theorem dX10_ofModule_113 : decode cX10_ofModule 113 = .ok (.getfield 21, 3) := by decide +kernel
theorem dX10_ofModule_116 : decode cX10_ofModule 116 = .ok (.iload_n 1, 1) := by decide +kernel
theorem dX10_ofModule_117 : decode cX10_ofModule 117 = .ok (.invokevirtual 136, 3) := by decide +kernel
theorem dX10_ofModule_120 : decode cX10_ofModule 120 = .ok (.ireturn, 1) := by decide +kernel
theorem dX10_ofModule_121 : decode cX10_ofModule 121 = .ok (.aload_n 0, 1) := by decide +kernel
theorem dX10_ofModule_122 : decode cX10_ofModule 122 = .ok (.getfield 48, 3) := by decide +kernel
theorem dX10_ofModule_125 : decode cX10_ofModule 125 = .ok (.iload_n 1, 1) := by decide +kernel
theorem dX10_ofModule_126 : decode cX10_ofModule 126 = .ok (.iaload, 1) := by decide +kernel
theorem dX10_ofModule_127 : decode cX10_ofModule 127 = .ok (.ireturn, 1) := by decide +kernel
theorem dX10_ofModule_128 : decode cX10_ofModule 128 = .ok (.aload_n 0, 1) := by decide +kernel
theorem dX10_ofModule_129 : decode cX10_ofModule 129 = .ok (.getfield 51, 3) := by decide +kernel
theorem dX10_ofModule_132 : decode cX10_ofModule 132 = .ok (.iload_n 1, 1) := by decide +kernel
theorem dX10_ofModule_133 : decode cX10_ofModule 133 = .ok (.iaload, 1) := by decide +kernel
theorem dX10_ofModule_134 : decode cX10_ofModule 134 = .ok (.ireturn, 1) := by decide +kernel
theorem dX10_ofModule_135 : decode cX10_ofModule 135 = .ok (.aload_n 0, 1) := by decide +kernel
theorem dX10_ofModule_136 : decode cX10_ofModule 136 = .ok (.getfield 37, 3) := by decide +kernel
theorem dX10_ofModule_139 : decode cX10_ofModule 139 = .ok (.iload_n 3, 1) := by decide +kernel
theorem dX10_ofModule_140 : decode cX10_ofModule 140 = .ok (.invokevirtual 139, 3) := by decide +kernel
theorem dX10_ofModule_143 : decode cX10_ofModule 143 = .ok (.ifCond .ne 7, 3) := by decide +kernel
theorem dX10_ofModule_146 : decode cX10_ofModule 146 = .ok (.iconst 0, 1) := by decide +kernel
theorem dX10_ofModule_147 : decode cX10_ofModule 147 = .ok (.goto 4, 3) := by decide +kernel
theorem dX10_ofModule_150 : decode cX10_ofModule 150 = .ok (.iconst 1, 1) := by decide +kernel
theorem dX10_ofModule_151 : decode cX10_ofModule 151 = .ok (.ireturn, 1) := by decide +kernel
theorem dX10_within_0 : decode cX10_within 0 = .ok (.aload_n 0, 1) := by decide +kernel
theorem dX10_within_1 : decode cX10_within 1 = .ok (.iload_n 1, 1) := by decide +kernel
theorem dX10_within_2 : decode cX10_within 2 = .ok (.invokevirtual 68, 3) := by decide +kernel
theorem dX10_within_5 : decode cX10_within 5 = .ok (.iload_n 2, 1) := by decide +kernel
theorem dX10_within_6 : decode cX10_within 6 = .ok (.iconst 0, 1) := by decide +kernel
theorem dX10_within_7 : decode cX10_within 7 = .ok (.bipush 15, 2) := by decide +kernel
theorem dX10_within_9 : decode cX10_within 9 = .ok (.invokestatic 72, 3) := by decide +kernel
theorem dX10_within_12 : decode cX10_within 12 = .ok (.iload_n 3, 1) := by decide +kernel
theorem dX10_within_13 : decode cX10_within 13 = .ok (.iconst 0, 1) := by decide +kernel
theorem dX10_within_14 : decode cX10_within 14 = .ok (.iconst 1, 1) := by decide +kernel
theorem dX10_within_15 : decode cX10_within 15 = .ok (.invokestatic 72, 3) := by decide +kernel
theorem dX10_within_18 : decode cX10_within 18 = .ok (.aload_n 0, 1) := by decide +kernel
theorem dX10_within_19 : decode cX10_within 19 = .ok (.getfield 21, 3) := by decide +kernel
theorem dX10_within_22 : decode cX10_within 22 = .ok (.getfield 142, 3) := by decide +kernel
theorem dX10_within_25 : decode cX10_within 25 = .ok (.iload_n 1, 1) := by decide +kernel
theorem dX10_within_26 : decode cX10_within 26 = .ok (.bipush 16, 2) := by decide +kernel
theorem dX10_within_28 : decode cX10_within 28 = .ok (.imul, 1) := by decide +kernel
theorem dX10_within_29 : decode cX10_within 29 = .ok (.iload_n 2, 1) := by decide +kernel
theorem dX10_within_30 : decode cX10_within 30 = .ok (.iadd, 1) := by decide +kernel
theorem dX10_within_31 : decode cX10_within 31 = .ok (.iaload, 1) := by decide +kernel
theorem dX10_within_32 : decode cX10_within 32 = .ok (.iload_n 3, 1) := by decide +kernel
theorem dX10_within_33 : decode cX10_within 33 = .ok (.invokestatic 145, 3) := by decide +kernel
theorem dX10_within_36 : decode cX10_within 36 = .ok (.ireturn, 1) := by decide +kernel
theorem dX10_outside_0 : decode cX10_outside 0 = .ok (.aload_n 0, 1) := by decide +kernel
theorem dX10_outside_1 : decode cX10_outside 1 = .ok (.iload_n 1, 1) := by decide +kernel
theorem dX10_outside_2 : decode cX10_outside 2 = .ok (.invokevirtual 68, 3) := by decide +kernel
theorem dX10_outside_5 : decode cX10_outside 5 = .ok (.iload_n 2, 1) := by decide +kernel
theorem dX10_outside_6 : decode cX10_outside 6 = .ok (.iconst 0, 1) := by decide +kernel
theorem dX10_outside_7 : decode cX10_outside 7 = .ok (.bipush 15, 2) := by decide +kernel
theorem dX10_outside_9 : decode cX10_outside 9 = .ok (.invokestatic 72, 3) := by decide +kernel
theorem dX10_outside_12 : decode cX10_outside 12 = .ok (.iload_n 3, 1) := by decide +kernel
theorem dX10_outside_13 : decode cX10_outside 13 = .ok (.iconst 0, 1) := by decide +kernel
theorem dX10_outside_14 : decode cX10_outside 14 = .ok (.iconst 5, 1) := by decide +kernel
theorem dX10_outside_15 : decode cX10_outside 15 = .ok (.invokestatic 72, 3) := by decide +kernel
theorem dX10_outside_18 : decode cX10_outside 18 = .ok (.aload_n 0, 1) := by decide +kernel
theorem dX10_outside_19 : decode cX10_outside 19 = .ok (.getfield 21, 3) := by decide +kernel
theorem dX10_outside_22 : decode cX10_outside 22 = .ok (.getfield 149, 3) := by decide +kernel
theorem dX10_outside_25 : decode cX10_outside 25 = .ok (.iload_n 1, 1) := by decide +kernel
theorem dX10_outside_26 : decode cX10_outside 26 = .ok (.bipush 16, 2) := by decide +kernel
theorem dX10_outside_28 : decode cX10_outside 28 = .ok (.imul, 1) := by decide +kernel
theorem dX10_outside_29 : decode cX10_outside 29 = .ok (.iload_n 2, 1) := by decide +kernel
theorem dX10_outside_30 : decode cX10_outside 30 = .ok (.iadd, 1) := by decide +kernel
theorem dX10_outside_31 : decode cX10_outside 31 = .ok (.iaload, 1) := by decide +kernel
theorem dX10_outside_32 : decode cX10_outside 32 = .ok (.istore 4, 2) := by decide +kernel
theorem dX10_outside_34 : decode cX10_outside 34 = .ok (.iload_n 3, 1) := by decide +kernel
theorem dX10_outside_35 : decode cX10_outside 35 = .ok (.iconst 1, 1) := by decide +kernel
theorem dX10_outside_36 : decode cX10_outside 36 = .ok (.if_icmp .gt 10, 3) := by decide +kernel
theorem dX10_outside_39 : decode cX10_outside 39 = .ok (.iload 4, 2) := by decide +kernel
theorem dX10_outside_41 : decode cX10_outside 41 = .ok (.iload_n 3, 1) := by decide +kernel
theorem dX10_outside_42 : decode cX10_outside 42 = .ok (.invokestatic 145, 3) := by decide +kernel
theorem dX10_outside_45 : decode cX10_outside 45 = .ok (.ireturn, 1) := by decide +kernel
theorem dX10_outside_46 : decode cX10_outside 46 = .ok (.iload 4, 2) := by decide +kernel
theorem dX10_outside_48 : decode cX10_outside 48 = .ok (.ifCond .ge 7, 3) := by decide +kernel
theorem dX10_outside_51 : decode cX10_outside 51 = .ok (.iconst 0, 1) := by decide +kernel
theorem dX10_outside_52 : decode cX10_outside 52 = .ok (.goto 22, 3) := by decide +kernel
theorem dX10_outside_55 : decode cX10_outside 55 = .ok (.aload_n 0, 1) := by decide +kernel
theorem dX10_outside_56 : decode cX10_outside 56 = .ok (.getfield 37, 3) := by decide +kernel
theorem dX10_outside_59 : decode cX10_outside 59 = .ok (.iload 4, 2) := by decide +kernel
theorem dX10_outside_61 : decode cX10_outside 61 = .ok (.invokevirtual 152, 3) := by decide +kernel
theorem dX10_outside_64 : decode cX10_outside 64 = .ok (.getfield 156, 3) := by decide +kernel
theorem dX10_outside_67 : decode cX10_outside 67 = .ok (.iload 4, 2) := by decide +kernel
theorem dX10_outside_69 : decode cX10_outside 69 = .ok (.laload, 1) := by decide +kernel
theorem dX10_outside_70 : decode cX10_outside 70 = .ok (.iload_n 3, 1) := by decide +kernel
theorem dX10_outside_71 : decode cX10_outside 71 = .ok (.invokestatic 162, 3) := by decide +kernel
theorem dX10_outside_74 : decode cX10_outside 74 = .ok (.ireturn, 1) := by decide +kernel
theorem dX10_build_0 : decode cX10_build 0 = .ok (.iload_n 1, 1) := by decide +kernel
theorem dX10_build_1 : decode cX10_build 1 = .ok (.iconst 1, 1) := by decide +kernel
theorem dX10_build_2 : decode cX10_build 2 = .ok (.bipush 8, 2) := by decide +kernel
theorem dX10_build_4 : decode cX10_build 4 = .ok (.invokestatic 72, 3) := by decide +kernel
theorem dX10_build_7 : decode cX10_build 7 = .ok (.aload_n 0, 1) := by decide +kernel
theorem dX10_build_8 : decode cX10_build 8 = .ok (.dup, 1) := by decide +kernel
theorem dX10_build_9 : decode cX10_build 9 = .ok (.getfield 168, 3) := by decide +kernel
theorem dX10_build_12 : decode cX10_build 12 = .ok (.iconst 1, 1) := by decide +kernel
theorem dX10_build_13 : decode cX10_build 13 = .ok (.iadd, 1) := by decide +kernel
theorem dX10_build_14 : decode cX10_build 14 = .ok (.putfield 168, 3) := by decide +kernel
theorem dX10_build_17 : decode cX10_build 17 = .ok (.iconst 0, 1) := by decide +kernel
theorem dX10_build_18 : decode cX10_build 18 = .ok (.istore_n 2, 1) := by decide +kernel
theorem dX10_build_19 : decode cX10_build 19 = .ok (.iconst 0, 1) := by decide +kernel
theorem dX10_build_20 : decode cX10_build 20 = .ok (.istore_n 3, 1) := by decide +kernel
theorem dX10_build_21 : decode cX10_build 21 = .ok (.iload_n 3, 1) := by decide +kernel
theorem dX10_build_22 : decode cX10_build 22 = .ok (.aload_n 0, 1) := by decide +kernel
theorem dX10_build_23 : decode cX10_build 23 = .ok (.getfield 28, 3) := by decide +kernel
theorem dX10_build_26 : decode cX10_build 26 = .ok (.getfield 171, 3) := by decide +kernel
theorem dX10_build_29 : decode cX10_build 29 = .ok (.if_icmp .ge 55, 3) := by decide +kernel
theorem dX10_build_32 : decode cX10_build 32 = .ok (.iload_n 2, 1) := by decide +kernel
theorem dX10_build_33 : decode cX10_build 33 = .ok (.iload_n 1, 1) := by decide +kernel
theorem dX10_build_34 : decode cX10_build 34 = .ok (.if_icmp .ge 50, 3) := by decide +kernel
theorem dX10_build_37 : decode cX10_build 37 = .ok (.aload_n 0, 1) := by decide +kernel
theorem dX10_build_38 : decode cX10_build 38 = .ok (.getfield 28, 3) := by decide +kernel
theorem dX10_build_41 : decode cX10_build 41 = .ok (.getfield 174, 3) := by decide +kernel
theorem dX10_build_44 : decode cX10_build 44 = .ok (.iload_n 3, 1) := by decide +kernel
theorem dX10_build_45 : decode cX10_build 45 = .ok (.iaload, 1) := by decide +kernel
theorem dX10_build_46 : decode cX10_build 46 = .ok (.istore 4, 2) := by decide +kernel
theorem dX10_build_48 : decode cX10_build 48 = .ok (.aload_n 0, 1) := by decide +kernel
theorem dX10_build_49 : decode cX10_build 49 = .ok (.getfield 37, 3) := by decide +kernel
theorem dX10_build_52 : decode cX10_build 52 = .ok (.iload 4, 2) := by decide +kernel
theorem dX10_build_54 : decode cX10_build 54 = .ok (.invokevirtual 139, 3) := by decide +kernel
theorem dX10_build_57 : decode cX10_build 57 = .ok (.ifCond .eq 21, 3) := by decide +kernel
theorem dX10_build_60 : decode cX10_build 60 = .ok (.aload_n 0, 1) := by decide +kernel
theorem dX10_build_61 : decode cX10_build 61 = .ok (.iload 4, 2) := by decide +kernel
theorem dX10_build_63 : decode cX10_build 63 = .ok (.aload_n 0, 1) := by decide +kernel
theorem dX10_build_64 : decode cX10_build 64 = .ok (.getfield 37, 3) := by decide +kernel
theorem dX10_build_67 : decode cX10_build 67 = .ok (.iload 4, 2) := by decide +kernel
theorem dX10_build_69 : decode cX10_build 69 = .ok (.invokevirtual 177, 3) := by decide +kernel
theorem dX10_build_72 : decode cX10_build 72 = .ok (.invokevirtual 180, 3) := by decide +kernel
theorem dX10_build_75 : decode cX10_build 75 = .ok (.iinc 2 1, 3) := by decide +kernel
theorem dX10_build_78 : decode cX10_build 78 = .ok (.iinc 3 1, 3) := by decide +kernel
theorem dX10_build_81 : decode cX10_build 81 = .ok (.goto (-60), 3) := by decide +kernel
theorem dX10_build_84 : decode cX10_build 84 = .ok (.iload_n 2, 1) := by decide +kernel
theorem dX10_build_85 : decode cX10_build 85 = .ok (.ireturn, 1) := by decide +kernel
theorem dX10_why_0 : decode cX10_why 0 = .ok (.aload_n 0, 1) := by decide +kernel
theorem dX10_why_1 : decode cX10_why 1 = .ok (.iload_n 1, 1) := by decide +kernel
theorem dX10_why_2 : decode cX10_why 2 = .ok (.invokevirtual 68, 3) := by decide +kernel
theorem dX10_why_5 : decode cX10_why 5 = .ok (.iload_n 2, 1) := by decide +kernel
theorem dX10_why_6 : decode cX10_why 6 = .ok (.iconst 0, 1) := by decide +kernel
theorem dX10_why_7 : decode cX10_why 7 = .ok (.iconst 3, 1) := by decide +kernel
theorem dX10_why_8 : decode cX10_why 8 = .ok (.invokestatic 72, 3) := by decide +kernel
theorem dX10_why_11 : decode cX10_why 11 = .ok (.aload_n 0, 1) := by decide +kernel
theorem dX10_why_12 : decode cX10_why 12 = .ok (.getfield 28, 3) := by decide +kernel
theorem dX10_why_15 : decode cX10_why 15 = .ok (.getfield 124, 3) := by decide +kernel
theorem dX10_why_18 : decode cX10_why 18 = .ok (.iload_n 1, 1) := by decide +kernel
theorem dX10_why_19 : decode cX10_why 19 = .ok (.iaload, 1) := by decide +kernel
theorem dX10_why_20 : decode cX10_why 20 = .ok (.istore_n 3, 1) := by decide +kernel
theorem dX10_why_21 : decode cX10_why 21 = .ok (.aload_n 0, 1) := by decide +kernel
theorem dX10_why_22 : decode cX10_why 22 = .ok (.getfield 37, 3) := by decide +kernel
theorem dX10_why_25 : decode cX10_why 25 = .ok (.iload_n 3, 1) := by decide +kernel
theorem dX10_why_26 : decode cX10_why 26 = .ok (.invokevirtual 139, 3) := by decide +kernel
theorem dX10_why_29 : decode cX10_why 29 = .ok (.istore 4, 2) := by decide +kernel
theorem dX10_why_31 : decode cX10_why 31 = .ok (.iload_n 2, 1) := by decide +kernel
theorem dX10_why_32 : decode cX10_why 32 = .ok (.lookupswitch 42 #[(0, 28), (1, 31)], 28) := by decide +kernel
theorem dX10_why_60 : decode cX10_why 60 = .ok (.iload 4, 2) := by decide +kernel
theorem dX10_why_62 : decode cX10_why 62 = .ok (.ireturn, 1) := by decide +kernel
theorem dX10_why_63 : decode cX10_why 63 = .ok (.aload_n 0, 1) := by decide +kernel
theorem dX10_why_64 : decode cX10_why 64 = .ok (.getfield 37, 3) := by decide +kernel
theorem dX10_why_67 : decode cX10_why 67 = .ok (.iload_n 3, 1) := by decide +kernel
theorem dX10_why_68 : decode cX10_why 68 = .ok (.iload 4, 2) := by decide +kernel
theorem dX10_why_70 : decode cX10_why 70 = .ok (.invokevirtual 184, 3) := by decide +kernel
theorem dX10_why_73 : decode cX10_why 73 = .ok (.ireturn, 1) := by decide +kernel
theorem dX10_why_74 : decode cX10_why 74 = .ok (.iload 4, 2) := by decide +kernel
theorem dX10_why_76 : decode cX10_why 76 = .ok (.iconst 4, 1) := by decide +kernel
theorem dX10_why_77 : decode cX10_why 77 = .ok (.if_icmp .ne 27, 3) := by decide +kernel
theorem dX10_why_80 : decode cX10_why 80 = .ok (.aload_n 0, 1) := by decide +kernel
theorem dX10_why_81 : decode cX10_why 81 = .ok (.getfield 37, 3) := by decide +kernel
theorem dX10_why_84 : decode cX10_why 84 = .ok (.aload_n 0, 1) := by decide +kernel
theorem dX10_why_85 : decode cX10_why 85 = .ok (.getfield 37, 3) := by decide +kernel
theorem dX10_why_88 : decode cX10_why 88 = .ok (.iload_n 3, 1) := by decide +kernel
theorem dX10_why_89 : decode cX10_why 89 = .ok (.invokevirtual 187, 3) := by decide +kernel
theorem dX10_why_92 : decode cX10_why 92 = .ok (.invokevirtual 190, 3) := by decide +kernel
theorem dX10_why_95 : decode cX10_why 95 = .ok (.iload_n 2, 1) := by decide +kernel
theorem dX10_why_96 : decode cX10_why 96 = .ok (.iconst 2, 1) := by decide +kernel
theorem dX10_why_97 : decode cX10_why 97 = .ok (.isub, 1) := by decide +kernel
theorem dX10_why_98 : decode cX10_why 98 = .ok (.invokestatic 145, 3) := by decide +kernel
theorem dX10_why_101 : decode cX10_why 101 = .ok (.goto 4, 3) := by decide +kernel
theorem dX10_why_104 : decode cX10_why 104 = .ok (.iconst (-1), 1) := by decide +kernel
theorem dX10_why_105 : decode cX10_why 105 = .ok (.ireturn, 1) := by decide +kernel
theorem dX10_built_0 : decode cX10_built 0 = .ok (.aload_n 0, 1) := by decide +kernel
theorem dX10_built_1 : decode cX10_built 1 = .ok (.iload_n 1, 1) := by decide +kernel
theorem dX10_built_2 : decode cX10_built 2 = .ok (.invokevirtual 68, 3) := by decide +kernel
theorem dX10_built_5 : decode cX10_built 5 = .ok (.iload_n 2, 1) := by decide +kernel
theorem dX10_built_6 : decode cX10_built 6 = .ok (.iconst 0, 1) := by decide +kernel
theorem dX10_built_7 : decode cX10_built 7 = .ok (.bipush 15, 2) := by decide +kernel
theorem dX10_built_9 : decode cX10_built 9 = .ok (.invokestatic 72, 3) := by decide +kernel
theorem dX10_built_12 : decode cX10_built 12 = .ok (.iload_n 3, 1) := by decide +kernel
theorem dX10_built_13 : decode cX10_built 13 = .ok (.iconst 0, 1) := by decide +kernel
theorem dX10_built_14 : decode cX10_built 14 = .ok (.iconst 5, 1) := by decide +kernel
theorem dX10_built_15 : decode cX10_built 15 = .ok (.invokestatic 72, 3) := by decide +kernel
theorem dX10_built_18 : decode cX10_built 18 = .ok (.iload_n 1, 1) := by decide +kernel
theorem dX10_built_19 : decode cX10_built 19 = .ok (.bipush 16, 2) := by decide +kernel
theorem dX10_built_21 : decode cX10_built 21 = .ok (.imul, 1) := by decide +kernel
theorem dX10_built_22 : decode cX10_built 22 = .ok (.iload_n 2, 1) := by decide +kernel
theorem dX10_built_23 : decode cX10_built 23 = .ok (.iadd, 1) := by decide +kernel
theorem dX10_built_24 : decode cX10_built 24 = .ok (.istore 4, 2) := by decide +kernel
theorem dX10_built_26 : decode cX10_built 26 = .ok (.aload_n 0, 1) := by decide +kernel
theorem dX10_built_27 : decode cX10_built 27 = .ok (.getfield 37, 3) := by decide +kernel
theorem dX10_built_30 : decode cX10_built 30 = .ok (.iload 4, 2) := by decide +kernel
theorem dX10_built_32 : decode cX10_built 32 = .ok (.invokevirtual 152, 3) := by decide +kernel
theorem dX10_built_35 : decode cX10_built 35 = .ok (.astore 5, 2) := by decide +kernel
theorem dX10_built_37 : decode cX10_built 37 = .ok (.aload 5, 2) := by decide +kernel
theorem dX10_built_39 : decode cX10_built 39 = .ok (.getfield 194, 3) := by decide +kernel
theorem dX10_built_42 : decode cX10_built 42 = .ok (.iload 4, 2) := by decide +kernel
theorem dX10_built_44 : decode cX10_built 44 = .ok (.invokevirtual 76, 3) := by decide +kernel
theorem dX10_built_47 : decode cX10_built 47 = .ok (.ifCond .ne 5, 3) := by decide +kernel
theorem dX10_built_50 : decode cX10_built 50 = .ok (.iconst (-1), 1) := by decide +kernel
theorem dX10_built_51 : decode cX10_built 51 = .ok (.ireturn, 1) := by decide +kernel
theorem dX10_built_52 : decode cX10_built 52 = .ok (.iload_n 3, 1) := by decide +kernel
theorem dX10_built_53 : decode cX10_built 53 = .ok (.tableswitch 70 0 3 #[31, 40, 53, 62], 31) := by decide +kernel
theorem dX10_built_84 : decode cX10_built 84 = .ok (.aload 5, 2) := by decide +kernel
theorem dX10_built_86 : decode cX10_built 86 = .ok (.getfield 195, 3) := by decide +kernel
theorem dX10_built_89 : decode cX10_built 89 = .ok (.iload 4, 2) := by decide +kernel
theorem dX10_built_91 : decode cX10_built 91 = .ok (.iaload, 1) := by decide +kernel
theorem dX10_built_92 : decode cX10_built 92 = .ok (.ireturn, 1) := by decide +kernel
theorem dX10_built_93 : decode cX10_built 93 = .ok (.aload 5, 2) := by decide +kernel
theorem dX10_built_95 : decode cX10_built 95 = .ok (.getfield 156, 3) := by decide +kernel
theorem dX10_built_98 : decode cX10_built 98 = .ok (.iload 4, 2) := by decide +kernel
theorem dX10_built_100 : decode cX10_built 100 = .ok (.laload, 1) := by decide +kernel
theorem dX10_built_101 : decode cX10_built 101 = .ok (.iconst 4, 1) := by decide +kernel
theorem dX10_built_102 : decode cX10_built 102 = .ok (.invokestatic 162, 3) := by decide +kernel
theorem dX10_built_105 : decode cX10_built 105 = .ok (.ireturn, 1) := by decide +kernel
theorem dX10_built_106 : decode cX10_built 106 = .ok (.aload 5, 2) := by decide +kernel
theorem dX10_built_108 : decode cX10_built 108 = .ok (.getfield 198, 3) := by decide +kernel
theorem dX10_built_111 : decode cX10_built 111 = .ok (.iload 4, 2) := by decide +kernel
theorem dX10_built_113 : decode cX10_built 113 = .ok (.iaload, 1) := by decide +kernel
theorem dX10_built_114 : decode cX10_built 114 = .ok (.ireturn, 1) := by decide +kernel
theorem dX10_built_115 : decode cX10_built 115 = .ok (.aload 5, 2) := by decide +kernel
theorem dX10_built_117 : decode cX10_built 117 = .ok (.iload 4, 2) := by decide +kernel
theorem dX10_built_119 : decode cX10_built 119 = .ok (.invokevirtual 201, 3) := by decide +kernel
theorem dX10_built_122 : decode cX10_built 122 = .ok (.ireturn, 1) := by decide +kernel
theorem dX10_built_123 : decode cX10_built 123 = .ok (.aload 5, 2) := by decide +kernel
theorem dX10_built_125 : decode cX10_built 125 = .ok (.getfield 204, 3) := by decide +kernel
theorem dX10_built_128 : decode cX10_built 128 = .ok (.iload 4, 2) := by decide +kernel
theorem dX10_built_130 : decode cX10_built 130 = .ok (.iaload, 1) := by decide +kernel
theorem dX10_built_131 : decode cX10_built 131 = .ok (.iload_n 3, 1) := by decide +kernel
theorem dX10_built_132 : decode cX10_built 132 = .ok (.iconst 4, 1) := by decide +kernel
theorem dX10_built_133 : decode cX10_built 133 = .ok (.isub, 1) := by decide +kernel
theorem dX10_built_134 : decode cX10_built 134 = .ok (.invokestatic 145, 3) := by decide +kernel
theorem dX10_built_137 : decode cX10_built 137 = .ok (.ireturn, 1) := by decide +kernel
theorem dX10_fault_0 : decode cX10_fault 0 = .ok (.aload_n 0, 1) := by decide +kernel
theorem dX10_fault_1 : decode cX10_fault 1 = .ok (.iload_n 1, 1) := by decide +kernel
theorem dX10_fault_2 : decode cX10_fault 2 = .ok (.invokevirtual 207, 3) := by decide +kernel
theorem dX10_fault_5 : decode cX10_fault 5 = .ok (.istore_n 3, 1) := by decide +kernel
theorem dX10_fault_6 : decode cX10_fault 6 = .ok (.iload_n 3, 1) := by decide +kernel
theorem dX10_fault_7 : decode cX10_fault 7 = .ok (.iconst (-1), 1) := by decide +kernel
theorem dX10_fault_8 : decode cX10_fault 8 = .ok (.if_icmp .ne 13, 3) := by decide +kernel
theorem dX10_fault_11 : decode cX10_fault 11 = .ok (.new 116, 3) := by decide +kernel
theorem dX10_fault_14 : decode cX10_fault 14 = .ok (.dup, 1) := by decide +kernel
theorem dX10_fault_15 : decode cX10_fault 15 = .ok (.ldc 210, 2) := by decide +kernel
theorem dX10_fault_17 : decode cX10_fault 17 = .ok (.invokespecial 120, 3) := by decide +kernel
theorem dX10_fault_20 : decode cX10_fault 20 = .ok (.athrow, 1) := by decide +kernel
theorem dX10_fault_21 : decode cX10_fault 21 = .ok (.iload_n 2, 1) := by decide +kernel
theorem dX10_fault_22 : decode cX10_fault 22 = .ok (.iconst 0, 1) := by decide +kernel
theorem dX10_fault_23 : decode cX10_fault 23 = .ok (.iconst 2, 1) := by decide +kernel
theorem dX10_fault_24 : decode cX10_fault 24 = .ok (.invokestatic 72, 3) := by decide +kernel
theorem dX10_fault_27 : decode cX10_fault 27 = .ok (.iload_n 2, 1) := by decide +kernel
theorem dX10_fault_28 : decode cX10_fault 28 = .ok (.ifCond .ne 19, 3) := by decide +kernel
theorem dX10_fault_31 : decode cX10_fault 31 = .ok (.aload_n 0, 1) := by decide +kernel
theorem dX10_fault_32 : decode cX10_fault 32 = .ok (.getfield 37, 3) := by decide +kernel
theorem dX10_fault_35 : decode cX10_fault 35 = .ok (.iload_n 3, 1) := by decide +kernel
theorem dX10_fault_36 : decode cX10_fault 36 = .ok (.invokevirtual 152, 3) := by decide +kernel
theorem dX10_fault_39 : decode cX10_fault 39 = .ok (.getfield 195, 3) := by decide +kernel
theorem dX10_fault_42 : decode cX10_fault 42 = .ok (.iload_n 3, 1) := by decide +kernel
theorem dX10_fault_43 : decode cX10_fault 43 = .ok (.iaload, 1) := by decide +kernel
theorem dX10_fault_44 : decode cX10_fault 44 = .ok (.goto 10, 3) := by decide +kernel
theorem dX10_fault_47 : decode cX10_fault 47 = .ok (.iload_n 3, 1) := by decide +kernel
theorem dX10_fault_48 : decode cX10_fault 48 = .ok (.iload_n 2, 1) := by decide +kernel
theorem dX10_fault_49 : decode cX10_fault 49 = .ok (.iconst 1, 1) := by decide +kernel
theorem dX10_fault_50 : decode cX10_fault 50 = .ok (.isub, 1) := by decide +kernel
theorem dX10_fault_51 : decode cX10_fault 51 = .ok (.invokestatic 145, 3) := by decide +kernel
theorem dX10_fault_54 : decode cX10_fault 54 = .ok (.ireturn, 1) := by decide +kernel
theorem dX10_run_0 : decode cX10_run 0 = .ok (.aload_n 0, 1) := by decide +kernel
theorem dX10_run_1 : decode cX10_run 1 = .ok (.iload_n 1, 1) := by decide +kernel
theorem dX10_run_2 : decode cX10_run 2 = .ok (.invokevirtual 68, 3) := by decide +kernel
theorem dX10_run_5 : decode cX10_run 5 = .ok (.iload_n 2, 1) := by decide +kernel
theorem dX10_run_6 : decode cX10_run 6 = .ok (.iconst 0, 1) := by decide +kernel
theorem dX10_run_7 : decode cX10_run 7 = .ok (.bipush 15, 2) := by decide +kernel
theorem dX10_run_9 : decode cX10_run 9 = .ok (.invokestatic 72, 3) := by decide +kernel
theorem dX10_run_12 : decode cX10_run 12 = .ok (.aload_n 0, 1) := by decide +kernel
theorem dX10_run_13 : decode cX10_run 13 = .ok (.iload_n 1, 1) := by decide +kernel
theorem dX10_run_14 : decode cX10_run 14 = .ok (.bipush 16, 2) := by decide +kernel
theorem dX10_run_16 : decode cX10_run 16 = .ok (.imul, 1) := by decide +kernel
theorem dX10_run_17 : decode cX10_run 17 = .ok (.iload_n 2, 1) := by decide +kernel
theorem dX10_run_18 : decode cX10_run 18 = .ok (.iadd, 1) := by decide +kernel
theorem dX10_run_19 : decode cX10_run 19 = .ok (.invokevirtual 212, 3) := by decide +kernel
theorem dX10_run_22 : decode cX10_run 22 = .ok (.ireturn, 1) := by decide +kernel
theorem dX10_many_0 : decode cX10_many 0 = .ok (.iload_n 1, 1) := by decide +kernel
theorem dX10_many_1 : decode cX10_many 1 = .ok (.iconst 0, 1) := by decide +kernel
theorem dX10_many_2 : decode cX10_many 2 = .ok (.bipush 9, 2) := by decide +kernel
theorem dX10_many_4 : decode cX10_many 4 = .ok (.invokestatic 72, 3) := by decide +kernel
theorem dX10_many_7 : decode cX10_many 7 = .ok (.iload_n 1, 1) := by decide +kernel
theorem dX10_many_8 : decode cX10_many 8 = .ok (.tableswitch 121 0 8 #[52, 60, 68, 76, 84, 92, 100, 111, 116], 52) := by decide +kernel
theorem dX10_many_60 : decode cX10_many 60 = .ok (.aload_n 0, 1) := by decide +kernel
theorem dX10_many_61 : decode cX10_many 61 = .ok (.getfield 12, 3) := by decide +kernel
theorem dX10_many_64 : decode cX10_many 64 = .ok (.getfield 54, 3) := by decide +kernel
theorem dX10_many_67 : decode cX10_many 67 = .ok (.ireturn, 1) := by decide +kernel
theorem dX10_many_68 : decode cX10_many 68 = .ok (.aload_n 0, 1) := by decide +kernel
theorem dX10_many_69 : decode cX10_many 69 = .ok (.getfield 12, 3) := by decide +kernel
theorem dX10_many_72 : decode cX10_many 72 = .ok (.invokevirtual 215, 3) := by decide +kernel
theorem dX10_many_75 : decode cX10_many 75 = .ok (.ireturn, 1) := by decide +kernel
theorem dX10_many_76 : decode cX10_many 76 = .ok (.aload_n 0, 1) := by decide +kernel
theorem dX10_many_77 : decode cX10_many 77 = .ok (.getfield 12, 3) := by decide +kernel
theorem dX10_many_80 : decode cX10_many 80 = .ok (.invokevirtual 219, 3) := by decide +kernel
theorem dX10_many_83 : decode cX10_many 83 = .ok (.ireturn, 1) := by decide +kernel
theorem dX10_many_84 : decode cX10_many 84 = .ok (.aload_n 0, 1) := by decide +kernel
theorem dX10_many_85 : decode cX10_many 85 = .ok (.getfield 28, 3) := by decide +kernel
theorem dX10_many_88 : decode cX10_many 88 = .ok (.getfield 171, 3) := by decide +kernel
theorem dX10_many_91 : decode cX10_many 91 = .ok (.ireturn, 1) := by decide +kernel
theorem dX10_many_92 : decode cX10_many 92 = .ok (.aload_n 0, 1) := by decide +kernel
theorem dX10_many_93 : decode cX10_many 93 = .ok (.getfield 37, 3) := by decide +kernel
theorem dX10_many_96 : decode cX10_many 96 = .ok (.invokevirtual 222, 3) := by decide +kernel
theorem dX10_many_99 : decode cX10_many 99 = .ok (.ireturn, 1) := by decide +kernel
theorem dX10_many_100 : decode cX10_many 100 = .ok (.aload_n 0, 1) := by decide +kernel
theorem dX10_many_101 : decode cX10_many 101 = .ok (.getfield 37, 3) := by decide +kernel
theorem dX10_many_104 : decode cX10_many 104 = .ok (.invokevirtual 225, 3) := by decide +kernel
theorem dX10_many_107 : decode cX10_many 107 = .ok (.ireturn, 1) := by decide +kernel
theorem dX10_many_108 : decode cX10_many 108 = .ok (.aload_n 0, 1) := by decide +kernel
theorem dX10_many_109 : decode cX10_many 109 = .ok (.getfield 37, 3) := by decide +kernel
theorem dX10_many_112 : decode cX10_many 112 = .ok (.getfield 228, 3) := by decide +kernel
theorem dX10_many_115 : decode cX10_many 115 = .ok (.getfield 232, 3) := by decide +kernel
theorem dX10_many_118 : decode cX10_many 118 = .ok (.ireturn, 1) := by decide +kernel
theorem dX10_many_119 : decode cX10_many 119 = .ok (.aload_n 0, 1) := by decide +kernel
theorem dX10_many_120 : decode cX10_many 120 = .ok (.getfield 235, 3) := by decide +kernel
theorem dX10_many_123 : decode cX10_many 123 = .ok (.ireturn, 1) := by decide +kernel
theorem dX10_many_124 : decode cX10_many 124 = .ok (.aload_n 0, 1) := by decide +kernel
theorem dX10_many_125 : decode cX10_many 125 = .ok (.getfield 238, 3) := by decide +kernel
theorem dX10_many_128 : decode cX10_many 128 = .ok (.ireturn, 1) := by decide +kernel
theorem dX10_many_129 : decode cX10_many 129 = .ok (.aload_n 0, 1) := by decide +kernel
theorem dX10_many_130 : decode cX10_many 130 = .ok (.getfield 168, 3) := by decide +kernel
theorem dX10_many_133 : decode cX10_many 133 = .ok (.ireturn, 1) := by decide +kernel
theorem dX10_wouldBuild_0 : decode cX10_wouldBuild 0 = .ok (.aload_n 0, 1) := by decide +kernel
theorem dX10_wouldBuild_1 : decode cX10_wouldBuild 1 = .ok (.getfield 41, 3) := by decide +kernel
theorem dX10_wouldBuild_4 : decode cX10_wouldBuild 4 = .ok (.aload_n 0, 1) := by decide +kernel
theorem dX10_wouldBuild_5 : decode cX10_wouldBuild 5 = .ok (.getfield 37, 3) := by decide +kernel
theorem dX10_wouldBuild_8 : decode cX10_wouldBuild 8 = .ok (.invokevirtual 241, 3) := by decide +kernel
theorem dX10_wouldBuild_11 : decode cX10_wouldBuild 11 = .ok (.aload_n 0, 1) := by decide +kernel
theorem dX10_wouldBuild_12 : decode cX10_wouldBuild 12 = .ok (.getfield 41, 3) := by decide +kernel
theorem dX10_wouldBuild_15 : decode cX10_wouldBuild 15 = .ok (.invokevirtual 245, 3) := by decide +kernel
theorem dX10_wouldBuild_18 : decode cX10_wouldBuild 18 = .ok (.ireturn, 1) := by decide +kernel
theorem dX10_builtBy_0 : decode cX10_builtBy 0 = .ok (.aload_n 0, 1) := by decide +kernel
theorem dX10_builtBy_1 : decode cX10_builtBy 1 = .ok (.iload_n 1, 1) := by decide +kernel
theorem dX10_builtBy_2 : decode cX10_builtBy 2 = .ok (.invokevirtual 68, 3) := by decide +kernel
theorem dX10_builtBy_5 : decode cX10_builtBy 5 = .ok (.iload_n 2, 1) := by decide +kernel
theorem dX10_builtBy_6 : decode cX10_builtBy 6 = .ok (.iconst 0, 1) := by decide +kernel
theorem dX10_builtBy_7 : decode cX10_builtBy 7 = .ok (.bipush 15, 2) := by decide +kernel
theorem dX10_builtBy_9 : decode cX10_builtBy 9 = .ok (.invokestatic 72, 3) := by decide +kernel
theorem dX10_builtBy_12 : decode cX10_builtBy 12 = .ok (.iload_n 3, 1) := by decide +kernel
theorem dX10_builtBy_13 : decode cX10_builtBy 13 = .ok (.bipush (-99), 2) := by decide +kernel
theorem dX10_builtBy_15 : decode cX10_builtBy 15 = .ok (.bipush 99, 2) := by decide +kernel
theorem dX10_builtBy_17 : decode cX10_builtBy 17 = .ok (.invokestatic 72, 3) := by decide +kernel
theorem dX10_builtBy_20 : decode cX10_builtBy 20 = .ok (.iload_n 1, 1) := by decide +kernel
theorem dX10_builtBy_21 : decode cX10_builtBy 21 = .ok (.bipush 16, 2) := by decide +kernel
theorem dX10_builtBy_23 : decode cX10_builtBy 23 = .ok (.imul, 1) := by decide +kernel
theorem dX10_builtBy_24 : decode cX10_builtBy 24 = .ok (.iload_n 2, 1) := by decide +kernel
theorem dX10_builtBy_25 : decode cX10_builtBy 25 = .ok (.iadd, 1) := by decide +kernel
theorem dX10_builtBy_26 : decode cX10_builtBy 26 = .ok (.istore 4, 2) := by decide +kernel
theorem dX10_builtBy_28 : decode cX10_builtBy 28 = .ok (.aload_n 0, 1) := by decide +kernel
theorem dX10_builtBy_29 : decode cX10_builtBy 29 = .ok (.getfield 12, 3) := by decide +kernel
theorem dX10_builtBy_32 : decode cX10_builtBy 32 = .ok (.iload 4, 2) := by decide +kernel
theorem dX10_builtBy_34 : decode cX10_builtBy 34 = .ok (.invokevirtual 76, 3) := by decide +kernel
theorem dX10_builtBy_37 : decode cX10_builtBy 37 = .ok (.ifCond .ne 5, 3) := by decide +kernel
theorem dX10_builtBy_40 : decode cX10_builtBy 40 = .ok (.iconst 0, 1) := by decide +kernel
theorem dX10_builtBy_41 : decode cX10_builtBy 41 = .ok (.ireturn, 1) := by decide +kernel
theorem dX10_builtBy_42 : decode cX10_builtBy 42 = .ok (.aload_n 0, 1) := by decide +kernel
theorem dX10_builtBy_43 : decode cX10_builtBy 43 = .ok (.getfield 41, 3) := by decide +kernel
theorem dX10_builtBy_46 : decode cX10_builtBy 46 = .ok (.aload_n 0, 1) := by decide +kernel
theorem dX10_builtBy_47 : decode cX10_builtBy 47 = .ok (.getfield 37, 3) := by decide +kernel
theorem dX10_builtBy_50 : decode cX10_builtBy 50 = .ok (.invokevirtual 241, 3) := by decide +kernel
theorem dX10_builtBy_53 : decode cX10_builtBy 53 = .ok (.aload_n 0, 1) := by decide +kernel
theorem dX10_builtBy_54 : decode cX10_builtBy 54 = .ok (.getfield 41, 3) := by decide +kernel
theorem dX10_builtBy_57 : decode cX10_builtBy 57 = .ok (.invokevirtual 245, 3) := by decide +kernel
theorem dX10_builtBy_60 : decode cX10_builtBy 60 = .ok (.pop, 1) := by decide +kernel
theorem dX10_builtBy_61 : decode cX10_builtBy 61 = .ok (.aload_n 0, 1) := by decide +kernel
theorem dX10_builtBy_62 : decode cX10_builtBy 62 = .ok (.getfield 41, 3) := by decide +kernel
theorem dX10_builtBy_65 : decode cX10_builtBy 65 = .ok (.getfield 248, 3) := by decide +kernel
theorem dX10_builtBy_68 : decode cX10_builtBy 68 = .ok (.getfield 86, 3) := by decide +kernel
theorem dX10_builtBy_71 : decode cX10_builtBy 71 = .ok (.iload 4, 2) := by decide +kernel
theorem dX10_builtBy_73 : decode cX10_builtBy 73 = .ok (.aload_n 0, 1) := by decide +kernel
theorem dX10_builtBy_74 : decode cX10_builtBy 74 = .ok (.getfield 12, 3) := by decide +kernel
theorem dX10_builtBy_77 : decode cX10_builtBy 77 = .ok (.getfield 86, 3) := by decide +kernel
theorem dX10_builtBy_80 : decode cX10_builtBy 80 = .ok (.iload 4, 2) := by decide +kernel
theorem dX10_builtBy_82 : decode cX10_builtBy 82 = .ok (.iaload, 1) := by decide +kernel
theorem dX10_builtBy_83 : decode cX10_builtBy 83 = .ok (.iload_n 3, 1) := by decide +kernel
theorem dX10_builtBy_84 : decode cX10_builtBy 84 = .ok (.invokestatic 249, 3) := by decide +kernel
theorem dX10_builtBy_87 : decode cX10_builtBy 87 = .ok (.iastore, 1) := by decide +kernel
theorem dX10_builtBy_88 : decode cX10_builtBy 88 = .ok (.aload_n 0, 1) := by decide +kernel
theorem dX10_builtBy_89 : decode cX10_builtBy 89 = .ok (.getfield 41, 3) := by decide +kernel
theorem dX10_builtBy_92 : decode cX10_builtBy 92 = .ok (.invokevirtual 245, 3) := by decide +kernel
theorem dX10_builtBy_95 : decode cX10_builtBy 95 = .ok (.ireturn, 1) := by decide +kernel
theorem dX10_rounds_0 : decode cX10_rounds 0 = .ok (.iload_n 1, 1) := by decide +kernel
theorem dX10_rounds_1 : decode cX10_rounds 1 = .ok (.iconst 1, 1) := by decide +kernel
theorem dX10_rounds_2 : decode cX10_rounds 2 = .ok (.iconst 4, 1) := by decide +kernel
theorem dX10_rounds_3 : decode cX10_rounds 3 = .ok (.invokestatic 72, 3) := by decide +kernel
theorem dX10_rounds_6 : decode cX10_rounds 6 = .ok (.aload_n 0, 1) := by decide +kernel
theorem dX10_rounds_7 : decode cX10_rounds 7 = .ok (.getfield 41, 3) := by decide +kernel
theorem dX10_rounds_10 : decode cX10_rounds 10 = .ok (.aload_n 0, 1) := by decide +kernel
theorem dX10_rounds_11 : decode cX10_rounds 11 = .ok (.getfield 37, 3) := by decide +kernel
theorem dX10_rounds_14 : decode cX10_rounds 14 = .ok (.invokevirtual 241, 3) := by decide +kernel
theorem dX10_rounds_17 : decode cX10_rounds 17 = .ok (.iconst 0, 1) := by decide +kernel
theorem dX10_rounds_18 : decode cX10_rounds 18 = .ok (.istore_n 2, 1) := by decide +kernel
theorem dX10_rounds_19 : decode cX10_rounds 19 = .ok (.iload_n 2, 1) := by decide +kernel
theorem dX10_rounds_20 : decode cX10_rounds 20 = .ok (.bipush 8, 2) := by decide +kernel
theorem dX10_rounds_22 : decode cX10_rounds 22 = .ok (.if_icmp .ge 20, 3) := by decide +kernel
theorem dX10_rounds_25 : decode cX10_rounds 25 = .ok (.aload_n 0, 1) := by decide +kernel
theorem dX10_rounds_26 : decode cX10_rounds 26 = .ok (.getfield 41, 3) := by decide +kernel
theorem dX10_rounds_29 : decode cX10_rounds 29 = .ok (.iload_n 1, 1) := by decide +kernel
theorem dX10_rounds_30 : decode cX10_rounds 30 = .ok (.invokevirtual 252, 3) := by decide +kernel
theorem dX10_rounds_33 : decode cX10_rounds 33 = .ok (.ifCond .le 9, 3) := by decide +kernel
theorem dX10_rounds_36 : decode cX10_rounds 36 = .ok (.iinc 2 1, 3) := by decide +kernel
theorem dX10_rounds_39 : decode cX10_rounds 39 = .ok (.goto (-20), 3) := by decide +kernel
theorem dX10_rounds_42 : decode cX10_rounds 42 = .ok (.iload_n 2, 1) := by decide +kernel
theorem dX10_rounds_43 : decode cX10_rounds 43 = .ok (.ireturn, 1) := by decide +kernel
theorem dX10_isAsNew_0 : decode cX10_isAsNew 0 = .ok (.aload_n 0, 1) := by decide +kernel
theorem dX10_isAsNew_1 : decode cX10_isAsNew 1 = .ok (.getfield 37, 3) := by decide +kernel
theorem dX10_isAsNew_4 : decode cX10_isAsNew 4 = .ok (.invokevirtual 222, 3) := by decide +kernel
theorem dX10_isAsNew_7 : decode cX10_isAsNew 7 = .ok (.ifCond .ne 7, 3) := by decide +kernel
theorem dX10_isAsNew_10 : decode cX10_isAsNew 10 = .ok (.iconst 1, 1) := by decide +kernel
theorem dX10_isAsNew_11 : decode cX10_isAsNew 11 = .ok (.goto 4, 3) := by decide +kernel
theorem dX10_isAsNew_14 : decode cX10_isAsNew 14 = .ok (.iconst 0, 1) := by decide +kernel
theorem dX10_isAsNew_15 : decode cX10_isAsNew 15 = .ok (.ireturn, 1) := by decide +kernel
theorem dX10_digest_0 : decode cX10_digest 0 = .ok (.ldc2_w 255, 3) := by decide +kernel
theorem dX10_digest_3 : decode cX10_digest 3 = .ok (.lstore_n 1, 1) := by decide +kernel
theorem dX10_digest_4 : decode cX10_digest 4 = .ok (.iconst 0, 1) := by decide +kernel
theorem dX10_digest_5 : decode cX10_digest 5 = .ok (.istore_n 3, 1) := by decide +kernel
theorem dX10_digest_6 : decode cX10_digest 6 = .ok (.iload_n 3, 1) := by decide +kernel
theorem dX10_digest_7 : decode cX10_digest 7 = .ok (.bipush 9, 2) := by decide +kernel
theorem dX10_digest_9 : decode cX10_digest 9 = .ok (.if_icmp .gt 22, 3) := by decide +kernel
theorem dX10_digest_12 : decode cX10_digest 12 = .ok (.lload_n 1, 1) := by decide +kernel
theorem dX10_digest_13 : decode cX10_digest 13 = .ok (.ldc2_w 257, 3) := by decide +kernel
theorem dX10_digest_16 : decode cX10_digest 16 = .ok (.lmul, 1) := by decide +kernel
theorem dX10_digest_17 : decode cX10_digest 17 = .ok (.aload_n 0, 1) := by decide +kernel
theorem dX10_digest_18 : decode cX10_digest 18 = .ok (.iload_n 3, 1) := by decide +kernel
theorem dX10_digest_19 : decode cX10_digest 19 = .ok (.invokevirtual 259, 3) := by decide +kernel
theorem dX10_digest_22 : decode cX10_digest 22 = .ok (.i2l, 1) := by decide +kernel
theorem dX10_digest_23 : decode cX10_digest 23 = .ok (.ladd, 1) := by decide +kernel
theorem dX10_digest_24 : decode cX10_digest 24 = .ok (.lstore_n 1, 1) := by decide +kernel
theorem dX10_digest_25 : decode cX10_digest 25 = .ok (.iinc 3 1, 3) := by decide +kernel
theorem dX10_digest_28 : decode cX10_digest 28 = .ok (.goto (-22), 3) := by decide +kernel
theorem dX10_digest_31 : decode cX10_digest 31 = .ok (.iconst 0, 1) := by decide +kernel
theorem dX10_digest_32 : decode cX10_digest 32 = .ok (.istore_n 3, 1) := by decide +kernel
theorem dX10_digest_33 : decode cX10_digest 33 = .ok (.iload_n 3, 1) := by decide +kernel
theorem dX10_digest_34 : decode cX10_digest 34 = .ok (.aload_n 0, 1) := by decide +kernel
theorem dX10_digest_35 : decode cX10_digest 35 = .ok (.getfield 12, 3) := by decide +kernel
theorem dX10_digest_38 : decode cX10_digest 38 = .ok (.getfield 54, 3) := by decide +kernel
theorem dX10_digest_41 : decode cX10_digest 41 = .ok (.if_icmp .ge 16, 3) := by decide +kernel
theorem dX10_digest_44 : decode cX10_digest 44 = .ok (.aload_n 0, 1) := by decide +kernel
theorem dX10_digest_45 : decode cX10_digest 45 = .ok (.lload_n 1, 1) := by decide +kernel
theorem dX10_digest_46 : decode cX10_digest 46 = .ok (.iload_n 3, 1) := by decide +kernel
theorem dX10_digest_47 : decode cX10_digest 47 = .ok (.invokevirtual 262, 3) := by decide +kernel
theorem dX10_digest_50 : decode cX10_digest 50 = .ok (.lstore_n 1, 1) := by decide +kernel
theorem dX10_digest_51 : decode cX10_digest 51 = .ok (.iinc 3 1, 3) := by decide +kernel
theorem dX10_digest_54 : decode cX10_digest 54 = .ok (.goto (-21), 3) := by decide +kernel
theorem dX10_digest_57 : decode cX10_digest 57 = .ok (.aload_n 0, 1) := by decide +kernel
theorem dX10_digest_58 : decode cX10_digest 58 = .ok (.getfield 37, 3) := by decide +kernel
theorem dX10_digest_61 : decode cX10_digest 61 = .ok (.invokevirtual 225, 3) := by decide +kernel
theorem dX10_digest_64 : decode cX10_digest 64 = .ok (.istore_n 3, 1) := by decide +kernel
theorem dX10_digest_65 : decode cX10_digest 65 = .ok (.iconst 0, 1) := by decide +kernel
theorem dX10_digest_66 : decode cX10_digest 66 = .ok (.istore 4, 2) := by decide +kernel
theorem dX10_digest_68 : decode cX10_digest 68 = .ok (.iload 4, 2) := by decide +kernel
theorem dX10_digest_70 : decode cX10_digest 70 = .ok (.iload_n 3, 1) := by decide +kernel
theorem dX10_digest_71 : decode cX10_digest 71 = .ok (.if_icmp .ge 40, 3) := by decide +kernel
theorem dX10_digest_74 : decode cX10_digest 74 = .ok (.iconst 0, 1) := by decide +kernel
theorem dX10_digest_75 : decode cX10_digest 75 = .ok (.istore 5, 2) := by decide +kernel
theorem dX10_digest_77 : decode cX10_digest 77 = .ok (.iload 5, 2) := by decide +kernel
theorem dX10_digest_79 : decode cX10_digest 79 = .ok (.iconst 2, 1) := by decide +kernel
theorem dX10_digest_80 : decode cX10_digest 80 = .ok (.if_icmp .gt 25, 3) := by decide +kernel
theorem dX10_digest_83 : decode cX10_digest 83 = .ok (.lload_n 1, 1) := by decide +kernel
theorem dX10_digest_84 : decode cX10_digest 84 = .ok (.ldc2_w 257, 3) := by decide +kernel
theorem dX10_digest_87 : decode cX10_digest 87 = .ok (.lmul, 1) := by decide +kernel
theorem dX10_digest_88 : decode cX10_digest 88 = .ok (.aload_n 0, 1) := by decide +kernel
theorem dX10_digest_89 : decode cX10_digest 89 = .ok (.iload 4, 2) := by decide +kernel
theorem dX10_digest_91 : decode cX10_digest 91 = .ok (.iload 5, 2) := by decide +kernel
theorem dX10_digest_93 : decode cX10_digest 93 = .ok (.invokevirtual 266, 3) := by decide +kernel
theorem dX10_digest_96 : decode cX10_digest 96 = .ok (.i2l, 1) := by decide +kernel
theorem dX10_digest_97 : decode cX10_digest 97 = .ok (.ladd, 1) := by decide +kernel
theorem dX10_digest_98 : decode cX10_digest 98 = .ok (.lstore_n 1, 1) := by decide +kernel
theorem dX10_digest_99 : decode cX10_digest 99 = .ok (.iinc 5 1, 3) := by decide +kernel
theorem dX10_digest_102 : decode cX10_digest 102 = .ok (.goto (-25), 3) := by decide +kernel
theorem dX10_digest_105 : decode cX10_digest 105 = .ok (.iinc 4 1, 3) := by decide +kernel
theorem dX10_digest_108 : decode cX10_digest 108 = .ok (.goto (-40), 3) := by decide +kernel
theorem dX10_digest_111 : decode cX10_digest 111 = .ok (.lload_n 1, 1) := by decide +kernel
theorem dX10_digest_112 : decode cX10_digest 112 = .ok (.ldc2_w 257, 3) := by decide +kernel
theorem dX10_digest_115 : decode cX10_digest 115 = .ok (.lmul, 1) := by decide +kernel
theorem dX10_digest_116 : decode cX10_digest 116 = .ok (.aload_n 0, 1) := by decide +kernel
theorem dX10_digest_117 : decode cX10_digest 117 = .ok (.invokevirtual 269, 3) := by decide +kernel
theorem dX10_digest_120 : decode cX10_digest 120 = .ok (.i2l, 1) := by decide +kernel
theorem dX10_digest_121 : decode cX10_digest 121 = .ok (.ladd, 1) := by decide +kernel
theorem dX10_digest_122 : decode cX10_digest 122 = .ok (.lstore_n 1, 1) := by decide +kernel
theorem dX10_digest_123 : decode cX10_digest 123 = .ok (.lload_n 1, 1) := by decide +kernel
theorem dX10_digest_124 : decode cX10_digest 124 = .ok (.ldc2_w 257, 3) := by decide +kernel
theorem dX10_digest_127 : decode cX10_digest 127 = .ok (.lmul, 1) := by decide +kernel
theorem dX10_digest_128 : decode cX10_digest 128 = .ok (.aload_n 0, 1) := by decide +kernel
theorem dX10_digest_129 : decode cX10_digest 129 = .ok (.iconst 1, 1) := by decide +kernel
theorem dX10_digest_130 : decode cX10_digest 130 = .ok (.invokevirtual 272, 3) := by decide +kernel
theorem dX10_digest_133 : decode cX10_digest 133 = .ok (.i2l, 1) := by decide +kernel
theorem dX10_digest_134 : decode cX10_digest 134 = .ok (.ladd, 1) := by decide +kernel
theorem dX10_digest_135 : decode cX10_digest 135 = .ok (.lstore_n 1, 1) := by decide +kernel
theorem dX10_digest_136 : decode cX10_digest 136 = .ok (.lload_n 1, 1) := by decide +kernel
theorem dX10_digest_137 : decode cX10_digest 137 = .ok (.ldc2_w 257, 3) := by decide +kernel
theorem dX10_digest_140 : decode cX10_digest 140 = .ok (.lmul, 1) := by decide +kernel
theorem dX10_digest_141 : decode cX10_digest 141 = .ok (.aload_n 0, 1) := by decide +kernel
theorem dX10_digest_142 : decode cX10_digest 142 = .ok (.iconst 2, 1) := by decide +kernel
theorem dX10_digest_143 : decode cX10_digest 143 = .ok (.invokevirtual 272, 3) := by decide +kernel
theorem dX10_digest_146 : decode cX10_digest 146 = .ok (.i2l, 1) := by decide +kernel
theorem dX10_digest_147 : decode cX10_digest 147 = .ok (.ladd, 1) := by decide +kernel
theorem dX10_digest_148 : decode cX10_digest 148 = .ok (.lstore_n 1, 1) := by decide +kernel
theorem dX10_digest_149 : decode cX10_digest 149 = .ok (.lload_n 1, 1) := by decide +kernel
theorem dX10_digest_150 : decode cX10_digest 150 = .ok (.ldc2_w 257, 3) := by decide +kernel
theorem dX10_digest_153 : decode cX10_digest 153 = .ok (.lmul, 1) := by decide +kernel
theorem dX10_digest_154 : decode cX10_digest 154 = .ok (.aload_n 0, 1) := by decide +kernel
theorem dX10_digest_155 : decode cX10_digest 155 = .ok (.invokevirtual 275, 3) := by decide +kernel
theorem dX10_digest_158 : decode cX10_digest 158 = .ok (.ifCond .eq 7, 3) := by decide +kernel
theorem dX10_digest_161 : decode cX10_digest 161 = .ok (.iconst 1, 1) := by decide +kernel
theorem dX10_digest_162 : decode cX10_digest 162 = .ok (.goto 4, 3) := by decide +kernel
theorem dX10_digest_165 : decode cX10_digest 165 = .ok (.iconst 0, 1) := by decide +kernel
theorem dX10_digest_166 : decode cX10_digest 166 = .ok (.i2l, 1) := by decide +kernel
theorem dX10_digest_167 : decode cX10_digest 167 = .ok (.ladd, 1) := by decide +kernel
theorem dX10_digest_168 : decode cX10_digest 168 = .ok (.lreturn, 1) := by decide +kernel
theorem dX10_digestOfModule_0 : decode cX10_digestOfModule 0 = .ok (.lload_n 1, 1) := by decide +kernel
theorem dX10_digestOfModule_1 : decode cX10_digestOfModule 1 = .ok (.lstore 4, 2) := by decide +kernel
theorem dX10_digestOfModule_3 : decode cX10_digestOfModule 3 = .ok (.iconst 0, 1) := by decide +kernel
theorem dX10_digestOfModule_4 : decode cX10_digestOfModule 4 = .ok (.istore 6, 2) := by decide +kernel
theorem dX10_digestOfModule_6 : decode cX10_digestOfModule 6 = .ok (.iload 6, 2) := by decide +kernel
theorem dX10_digestOfModule_8 : decode cX10_digestOfModule 8 = .ok (.bipush 8, 2) := by decide +kernel
theorem dX10_digestOfModule_10 : decode cX10_digestOfModule 10 = .ok (.if_icmp .gt 26, 3) := by decide +kernel
theorem dX10_digestOfModule_13 : decode cX10_digestOfModule 13 = .ok (.lload 4, 2) := by decide +kernel
theorem dX10_digestOfModule_15 : decode cX10_digestOfModule 15 = .ok (.ldc2_w 257, 3) := by decide +kernel
theorem dX10_digestOfModule_18 : decode cX10_digestOfModule 18 = .ok (.lmul, 1) := by decide +kernel
theorem dX10_digestOfModule_19 : decode cX10_digestOfModule 19 = .ok (.aload_n 0, 1) := by decide +kernel
theorem dX10_digestOfModule_20 : decode cX10_digestOfModule 20 = .ok (.iload_n 3, 1) := by decide +kernel
theorem dX10_digestOfModule_21 : decode cX10_digestOfModule 21 = .ok (.iload 6, 2) := by decide +kernel
theorem dX10_digestOfModule_23 : decode cX10_digestOfModule 23 = .ok (.invokevirtual 279, 3) := by decide +kernel
theorem dX10_digestOfModule_26 : decode cX10_digestOfModule 26 = .ok (.i2l, 1) := by decide +kernel
theorem dX10_digestOfModule_27 : decode cX10_digestOfModule 27 = .ok (.ladd, 1) := by decide +kernel
theorem dX10_digestOfModule_28 : decode cX10_digestOfModule 28 = .ok (.lstore 4, 2) := by decide +kernel
theorem dX10_digestOfModule_30 : decode cX10_digestOfModule 30 = .ok (.iinc 6 1, 3) := by decide +kernel
theorem dX10_digestOfModule_33 : decode cX10_digestOfModule 33 = .ok (.goto (-27), 3) := by decide +kernel
theorem dX10_digestOfModule_36 : decode cX10_digestOfModule 36 = .ok (.iconst 0, 1) := by decide +kernel
theorem dX10_digestOfModule_37 : decode cX10_digestOfModule 37 = .ok (.istore 6, 2) := by decide +kernel
theorem dX10_digestOfModule_39 : decode cX10_digestOfModule 39 = .ok (.iload 6, 2) := by decide +kernel
theorem dX10_digestOfModule_41 : decode cX10_digestOfModule 41 = .ok (.iconst 3, 1) := by decide +kernel
theorem dX10_digestOfModule_42 : decode cX10_digestOfModule 42 = .ok (.if_icmp .gt 26, 3) := by decide +kernel
end
section
theorem dX10_digestOfModule_45 : decode cX10_digestOfModule 45 = .ok (.lload 4, 2) := by decide +kernel
theorem dX10_digestOfModule_47 : decode cX10_digestOfModule 47 = .ok (.ldc2_w 257, 3) := by decide +kernel
theorem dX10_digestOfModule_50 : decode cX10_digestOfModule 50 = .ok (.lmul, 1) := by decide +kernel
theorem dX10_digestOfModule_51 : decode cX10_digestOfModule 51 = .ok (.aload_n 0, 1) := by decide +kernel
theorem dX10_digestOfModule_52 : decode cX10_digestOfModule 52 = .ok (.iload_n 3, 1) := by decide +kernel
theorem dX10_digestOfModule_53 : decode cX10_digestOfModule 53 = .ok (.iload 6, 2) := by decide +kernel
theorem dX10_digestOfModule_55 : decode cX10_digestOfModule 55 = .ok (.invokevirtual 282, 3) := by decide +kernel
theorem dX10_digestOfModule_58 : decode cX10_digestOfModule 58 = .ok (.i2l, 1) := by decide +kernel
theorem dX10_digestOfModule_59 : decode cX10_digestOfModule 59 = .ok (.ladd, 1) := by decide +kernel
theorem dX10_digestOfModule_60 : decode cX10_digestOfModule 60 = .ok (.lstore 4, 2) := by decide +kernel
theorem dX10_digestOfModule_62 : decode cX10_digestOfModule 62 = .ok (.iinc 6 1, 3) := by decide +kernel
theorem dX10_digestOfModule_65 : decode cX10_digestOfModule 65 = .ok (.goto (-26), 3) := by decide +kernel
theorem dX10_digestOfModule_68 : decode cX10_digestOfModule 68 = .ok (.iconst 0, 1) := by decide +kernel
theorem dX10_digestOfModule_69 : decode cX10_digestOfModule 69 = .ok (.istore 6, 2) := by decide +kernel
theorem dX10_digestOfModule_71 : decode cX10_digestOfModule 71 = .ok (.iload 6, 2) := by decide +kernel
theorem dX10_digestOfModule_73 : decode cX10_digestOfModule 73 = .ok (.bipush 16, 2) := by decide +kernel
theorem dX10_digestOfModule_75 : decode cX10_digestOfModule 75 = .ok (.if_icmp .ge 20, 3) := by decide +kernel
theorem dX10_digestOfModule_78 : decode cX10_digestOfModule 78 = .ok (.aload_n 0, 1) := by decide +kernel
theorem dX10_digestOfModule_79 : decode cX10_digestOfModule 79 = .ok (.lload 4, 2) := by decide +kernel
theorem dX10_digestOfModule_81 : decode cX10_digestOfModule 81 = .ok (.iload_n 3, 1) := by decide +kernel
theorem dX10_digestOfModule_82 : decode cX10_digestOfModule 82 = .ok (.iload 6, 2) := by decide +kernel
theorem dX10_digestOfModule_84 : decode cX10_digestOfModule 84 = .ok (.invokevirtual 285, 3) := by decide +kernel
theorem dX10_digestOfModule_87 : decode cX10_digestOfModule 87 = .ok (.lstore 4, 2) := by decide +kernel
theorem dX10_digestOfModule_89 : decode cX10_digestOfModule 89 = .ok (.iinc 6 1, 3) := by decide +kernel
theorem dX10_digestOfModule_92 : decode cX10_digestOfModule 92 = .ok (.goto (-21), 3) := by decide +kernel
theorem dX10_digestOfModule_95 : decode cX10_digestOfModule 95 = .ok (.lload 4, 2) := by decide +kernel
theorem dX10_digestOfModule_97 : decode cX10_digestOfModule 97 = .ok (.lreturn, 1) := by decide +kernel
theorem dX10_digestOfName_0 : decode cX10_digestOfName 0 = .ok (.lload_n 1, 1) := by decide +kernel
theorem dX10_digestOfName_1 : decode cX10_digestOfName 1 = .ok (.lstore 5, 2) := by decide +kernel
theorem dX10_digestOfName_3 : decode cX10_digestOfName 3 = .ok (.iconst 0, 1) := by decide +kernel
theorem dX10_digestOfName_4 : decode cX10_digestOfName 4 = .ok (.istore 7, 2) := by decide +kernel
theorem dX10_digestOfName_6 : decode cX10_digestOfName 6 = .ok (.iload 7, 2) := by decide +kernel
theorem dX10_digestOfName_8 : decode cX10_digestOfName 8 = .ok (.iconst 1, 1) := by decide +kernel
theorem dX10_digestOfName_9 : decode cX10_digestOfName 9 = .ok (.if_icmp .gt 28, 3) := by decide +kernel
theorem dX10_digestOfName_12 : decode cX10_digestOfName 12 = .ok (.lload 5, 2) := by decide +kernel
theorem dX10_digestOfName_14 : decode cX10_digestOfName 14 = .ok (.ldc2_w 257, 3) := by decide +kernel
theorem dX10_digestOfName_17 : decode cX10_digestOfName 17 = .ok (.lmul, 1) := by decide +kernel
theorem dX10_digestOfName_18 : decode cX10_digestOfName 18 = .ok (.aload_n 0, 1) := by decide +kernel
theorem dX10_digestOfName_19 : decode cX10_digestOfName 19 = .ok (.iload_n 3, 1) := by decide +kernel
theorem dX10_digestOfName_20 : decode cX10_digestOfName 20 = .ok (.iload 4, 2) := by decide +kernel
theorem dX10_digestOfName_22 : decode cX10_digestOfName 22 = .ok (.iload 7, 2) := by decide +kernel
theorem dX10_digestOfName_24 : decode cX10_digestOfName 24 = .ok (.invokevirtual 289, 3) := by decide +kernel
theorem dX10_digestOfName_27 : decode cX10_digestOfName 27 = .ok (.i2l, 1) := by decide +kernel
theorem dX10_digestOfName_28 : decode cX10_digestOfName 28 = .ok (.ladd, 1) := by decide +kernel
theorem dX10_digestOfName_29 : decode cX10_digestOfName 29 = .ok (.lstore 5, 2) := by decide +kernel
theorem dX10_digestOfName_31 : decode cX10_digestOfName 31 = .ok (.iinc 7 1, 3) := by decide +kernel
theorem dX10_digestOfName_34 : decode cX10_digestOfName 34 = .ok (.goto (-28), 3) := by decide +kernel
theorem dX10_digestOfName_37 : decode cX10_digestOfName 37 = .ok (.iconst 0, 1) := by decide +kernel
theorem dX10_digestOfName_38 : decode cX10_digestOfName 38 = .ok (.istore 7, 2) := by decide +kernel
theorem dX10_digestOfName_40 : decode cX10_digestOfName 40 = .ok (.iload 7, 2) := by decide +kernel
theorem dX10_digestOfName_42 : decode cX10_digestOfName 42 = .ok (.iconst 5, 1) := by decide +kernel
theorem dX10_digestOfName_43 : decode cX10_digestOfName 43 = .ok (.if_icmp .gt 28, 3) := by decide +kernel
theorem dX10_digestOfName_46 : decode cX10_digestOfName 46 = .ok (.lload 5, 2) := by decide +kernel
theorem dX10_digestOfName_48 : decode cX10_digestOfName 48 = .ok (.ldc2_w 257, 3) := by decide +kernel
theorem dX10_digestOfName_51 : decode cX10_digestOfName 51 = .ok (.lmul, 1) := by decide +kernel
theorem dX10_digestOfName_52 : decode cX10_digestOfName 52 = .ok (.aload_n 0, 1) := by decide +kernel
theorem dX10_digestOfName_53 : decode cX10_digestOfName 53 = .ok (.iload_n 3, 1) := by decide +kernel
theorem dX10_digestOfName_54 : decode cX10_digestOfName 54 = .ok (.iload 4, 2) := by decide +kernel
theorem dX10_digestOfName_56 : decode cX10_digestOfName 56 = .ok (.iload 7, 2) := by decide +kernel
theorem dX10_digestOfName_58 : decode cX10_digestOfName 58 = .ok (.invokevirtual 292, 3) := by decide +kernel
theorem dX10_digestOfName_61 : decode cX10_digestOfName 61 = .ok (.i2l, 1) := by decide +kernel
theorem dX10_digestOfName_62 : decode cX10_digestOfName 62 = .ok (.ladd, 1) := by decide +kernel
theorem dX10_digestOfName_63 : decode cX10_digestOfName 63 = .ok (.lstore 5, 2) := by decide +kernel
theorem dX10_digestOfName_65 : decode cX10_digestOfName 65 = .ok (.iinc 7 1, 3) := by decide +kernel
theorem dX10_digestOfName_68 : decode cX10_digestOfName 68 = .ok (.goto (-28), 3) := by decide +kernel
theorem dX10_digestOfName_71 : decode cX10_digestOfName 71 = .ok (.iconst 0, 1) := by decide +kernel
theorem dX10_digestOfName_72 : decode cX10_digestOfName 72 = .ok (.istore 7, 2) := by decide +kernel
theorem dX10_digestOfName_74 : decode cX10_digestOfName 74 = .ok (.iload 7, 2) := by decide +kernel
theorem dX10_digestOfName_76 : decode cX10_digestOfName 76 = .ok (.iconst 5, 1) := by decide +kernel
theorem dX10_digestOfName_77 : decode cX10_digestOfName 77 = .ok (.if_icmp .gt 28, 3) := by decide +kernel
theorem dX10_digestOfName_80 : decode cX10_digestOfName 80 = .ok (.lload 5, 2) := by decide +kernel
theorem dX10_digestOfName_82 : decode cX10_digestOfName 82 = .ok (.ldc2_w 257, 3) := by decide +kernel
theorem dX10_digestOfName_85 : decode cX10_digestOfName 85 = .ok (.lmul, 1) := by decide +kernel
theorem dX10_digestOfName_86 : decode cX10_digestOfName 86 = .ok (.aload_n 0, 1) := by decide +kernel
theorem dX10_digestOfName_87 : decode cX10_digestOfName 87 = .ok (.iload_n 3, 1) := by decide +kernel
theorem dX10_digestOfName_88 : decode cX10_digestOfName 88 = .ok (.iload 4, 2) := by decide +kernel
theorem dX10_digestOfName_90 : decode cX10_digestOfName 90 = .ok (.iload 7, 2) := by decide +kernel
theorem dX10_digestOfName_92 : decode cX10_digestOfName 92 = .ok (.invokevirtual 294, 3) := by decide +kernel
theorem dX10_digestOfName_95 : decode cX10_digestOfName 95 = .ok (.i2l, 1) := by decide +kernel
theorem dX10_digestOfName_96 : decode cX10_digestOfName 96 = .ok (.ladd, 1) := by decide +kernel
theorem dX10_digestOfName_97 : decode cX10_digestOfName 97 = .ok (.lstore 5, 2) := by decide +kernel
theorem dX10_digestOfName_99 : decode cX10_digestOfName 99 = .ok (.iinc 7 1, 3) := by decide +kernel
theorem dX10_digestOfName_102 : decode cX10_digestOfName 102 = .ok (.goto (-28), 3) := by decide +kernel
theorem dX10_digestOfName_105 : decode cX10_digestOfName 105 = .ok (.lload 5, 2) := by decide +kernel
theorem dX10_digestOfName_107 : decode cX10_digestOfName 107 = .ok (.ldc2_w 257, 3) := by decide +kernel
theorem dX10_digestOfName_110 : decode cX10_digestOfName 110 = .ok (.lmul, 1) := by decide +kernel
theorem dX10_digestOfName_111 : decode cX10_digestOfName 111 = .ok (.aload_n 0, 1) := by decide +kernel
theorem dX10_digestOfName_112 : decode cX10_digestOfName 112 = .ok (.iload_n 3, 1) := by decide +kernel
theorem dX10_digestOfName_113 : decode cX10_digestOfName 113 = .ok (.iload 4, 2) := by decide +kernel
theorem dX10_digestOfName_115 : decode cX10_digestOfName 115 = .ok (.invokevirtual 297, 3) := by decide +kernel
theorem dX10_digestOfName_118 : decode cX10_digestOfName 118 = .ok (.i2l, 1) := by decide +kernel
theorem dX10_digestOfName_119 : decode cX10_digestOfName 119 = .ok (.ladd, 1) := by decide +kernel
theorem dX10_digestOfName_120 : decode cX10_digestOfName 120 = .ok (.lreturn, 1) := by decide +kernel
theorem dX10_checkModule_0 : decode cX10_checkModule 0 = .ok (.iload_n 1, 1) := by decide +kernel
theorem dX10_checkModule_1 : decode cX10_checkModule 1 = .ok (.ifCond .lt 14, 3) := by decide +kernel
theorem dX10_checkModule_4 : decode cX10_checkModule 4 = .ok (.iload_n 1, 1) := by decide +kernel
theorem dX10_checkModule_5 : decode cX10_checkModule 5 = .ok (.aload_n 0, 1) := by decide +kernel
theorem dX10_checkModule_6 : decode cX10_checkModule 6 = .ok (.getfield 12, 3) := by decide +kernel
theorem dX10_checkModule_9 : decode cX10_checkModule 9 = .ok (.getfield 54, 3) := by decide +kernel
theorem dX10_checkModule_12 : decode cX10_checkModule 12 = .ok (.if_icmp .lt 14, 3) := by decide +kernel
theorem dX10_checkModule_15 : decode cX10_checkModule 15 = .ok (.new 116, 3) := by decide +kernel
theorem dX10_checkModule_18 : decode cX10_checkModule 18 = .ok (.dup, 1) := by decide +kernel
theorem dX10_checkModule_19 : decode cX10_checkModule 19 = .ok (.ldc_w 300, 3) := by decide +kernel
theorem dX10_checkModule_22 : decode cX10_checkModule 22 = .ok (.invokespecial 120, 3) := by decide +kernel
theorem dX10_checkModule_25 : decode cX10_checkModule 25 = .ok (.athrow, 1) := by decide +kernel
theorem dX10_checkModule_26 : decode cX10_checkModule 26 = .ok (.return_, 1) := by decide +kernel
theorem dX10_checkWithin_0 : decode cX10_checkWithin 0 = .ok (.iload_n 0, 1) := by decide +kernel
theorem dX10_checkWithin_1 : decode cX10_checkWithin 1 = .ok (.iload_n 1, 1) := by decide +kernel
theorem dX10_checkWithin_2 : decode cX10_checkWithin 2 = .ok (.if_icmp .lt 8, 3) := by decide +kernel
theorem dX10_checkWithin_5 : decode cX10_checkWithin 5 = .ok (.iload_n 0, 1) := by decide +kernel
theorem dX10_checkWithin_6 : decode cX10_checkWithin 6 = .ok (.iload_n 2, 1) := by decide +kernel
theorem dX10_checkWithin_7 : decode cX10_checkWithin 7 = .ok (.if_icmp .le 14, 3) := by decide +kernel
theorem dX10_checkWithin_10 : decode cX10_checkWithin 10 = .ok (.new 95, 3) := by decide +kernel
theorem dX10_checkWithin_13 : decode cX10_checkWithin 13 = .ok (.dup, 1) := by decide +kernel
theorem dX10_checkWithin_14 : decode cX10_checkWithin 14 = .ok (.ldc_w 302, 3) := by decide +kernel
theorem dX10_checkWithin_17 : decode cX10_checkWithin 17 = .ok (.invokespecial 99, 3) := by decide +kernel
theorem dX10_checkWithin_20 : decode cX10_checkWithin 20 = .ok (.athrow, 1) := by decide +kernel
theorem dX10_checkWithin_21 : decode cX10_checkWithin 21 = .ok (.return_, 1) := by decide +kernel
theorem dX10_settle_0 : decode cX10_settle 0 = .ok (.aload_n 0, 1) := by decide +kernel
theorem dX10_settle_1 : decode cX10_settle 1 = .ok (.getfield 21, 3) := by decide +kernel
theorem dX10_settle_4 : decode cX10_settle 4 = .ok (.invokevirtual 304, 3) := by decide +kernel
theorem dX10_settle_7 : decode cX10_settle 7 = .ok (.aload_n 0, 1) := by decide +kernel
theorem dX10_settle_8 : decode cX10_settle 8 = .ok (.getfield 28, 3) := by decide +kernel
theorem dX10_settle_11 : decode cX10_settle 11 = .ok (.invokevirtual 305, 3) := by decide +kernel
theorem dX10_settle_14 : decode cX10_settle 14 = .ok (.return_, 1) := by decide +kernel
theorem dX10_clear_0 : decode cX10_clear 0 = .ok (.iconst 0, 1) := by decide +kernel
theorem dX10_clear_1 : decode cX10_clear 1 = .ok (.istore_n 1, 1) := by decide +kernel
theorem dX10_clear_2 : decode cX10_clear 2 = .ok (.iload_n 1, 1) := by decide +kernel
theorem dX10_clear_3 : decode cX10_clear 3 = .ok (.aload_n 0, 1) := by decide +kernel
theorem dX10_clear_4 : decode cX10_clear 4 = .ok (.arraylength, 1) := by decide +kernel
theorem dX10_clear_5 : decode cX10_clear 5 = .ok (.if_icmp .ge 13, 3) := by decide +kernel
theorem dX10_clear_8 : decode cX10_clear 8 = .ok (.aload_n 0, 1) := by decide +kernel
theorem dX10_clear_9 : decode cX10_clear 9 = .ok (.iload_n 1, 1) := by decide +kernel
theorem dX10_clear_10 : decode cX10_clear 10 = .ok (.iconst 0, 1) := by decide +kernel
theorem dX10_clear_11 : decode cX10_clear 11 = .ok (.bastore, 1) := by decide +kernel
theorem dX10_clear_12 : decode cX10_clear 12 = .ok (.iinc 1 1, 3) := by decide +kernel
theorem dX10_clear_15 : decode cX10_clear 15 = .ok (.goto (-13), 3) := by decide +kernel
theorem dX10_clear_18 : decode cX10_clear 18 = .ok (.return_, 1) := by decide +kernel
theorem dX10_partOf_0 : decode cX10_partOf 0 = .ok (.iload_n 0, 1) := by decide +kernel
theorem dX10_partOf_1 : decode cX10_partOf 1 = .ok (.ifCond .ge 5, 3) := by decide +kernel
theorem dX10_partOf_4 : decode cX10_partOf 4 = .ok (.iload_n 0, 1) := by decide +kernel
theorem dX10_partOf_5 : decode cX10_partOf 5 = .ok (.ireturn, 1) := by decide +kernel
theorem dX10_partOf_6 : decode cX10_partOf 6 = .ok (.iload_n 1, 1) := by decide +kernel
theorem dX10_partOf_7 : decode cX10_partOf 7 = .ok (.ifCond .ne 10, 3) := by decide +kernel
theorem dX10_partOf_10 : decode cX10_partOf 10 = .ok (.iload_n 0, 1) := by decide +kernel
theorem dX10_partOf_11 : decode cX10_partOf 11 = .ok (.bipush 16, 2) := by decide +kernel
theorem dX10_partOf_13 : decode cX10_partOf 13 = .ok (.idiv, 1) := by decide +kernel
theorem dX10_partOf_14 : decode cX10_partOf 14 = .ok (.goto 7, 3) := by decide +kernel
theorem dX10_partOf_17 : decode cX10_partOf 17 = .ok (.iload_n 0, 1) := by decide +kernel
theorem dX10_partOf_18 : decode cX10_partOf 18 = .ok (.bipush 16, 2) := by decide +kernel
theorem dX10_partOf_20 : decode cX10_partOf 20 = .ok (.irem, 1) := by decide +kernel
theorem dX10_partOf_21 : decode cX10_partOf 21 = .ok (.ireturn, 1) := by decide +kernel
theorem dX10_countRenewal_0 : decode cX10_countRenewal 0 = .ok (.iload_n 2, 1) := by decide +kernel
theorem dX10_countRenewal_1 : decode cX10_countRenewal 1 = .ok (.ifCond .eq 16, 3) := by decide +kernel
theorem dX10_countRenewal_4 : decode cX10_countRenewal 4 = .ok (.aload_n 0, 1) := by decide +kernel
theorem dX10_countRenewal_5 : decode cX10_countRenewal 5 = .ok (.dup, 1) := by decide +kernel
theorem dX10_countRenewal_6 : decode cX10_countRenewal 6 = .ok (.getfield 238, 3) := by decide +kernel
theorem dX10_countRenewal_9 : decode cX10_countRenewal 9 = .ok (.iconst 1, 1) := by decide +kernel
theorem dX10_countRenewal_10 : decode cX10_countRenewal 10 = .ok (.iadd, 1) := by decide +kernel
theorem dX10_countRenewal_11 : decode cX10_countRenewal 11 = .ok (.putfield 238, 3) := by decide +kernel
theorem dX10_countRenewal_14 : decode cX10_countRenewal 14 = .ok (.goto 13, 3) := by decide +kernel
theorem dX10_countRenewal_17 : decode cX10_countRenewal 17 = .ok (.aload_n 0, 1) := by decide +kernel
theorem dX10_countRenewal_18 : decode cX10_countRenewal 18 = .ok (.dup, 1) := by decide +kernel
theorem dX10_countRenewal_19 : decode cX10_countRenewal 19 = .ok (.getfield 235, 3) := by decide +kernel
theorem dX10_countRenewal_22 : decode cX10_countRenewal 22 = .ok (.iconst 1, 1) := by decide +kernel
theorem dX10_countRenewal_23 : decode cX10_countRenewal 23 = .ok (.iadd, 1) := by decide +kernel
theorem dX10_countRenewal_24 : decode cX10_countRenewal 24 = .ok (.putfield 235, 3) := by decide +kernel
theorem dX10_countRenewal_27 : decode cX10_countRenewal 27 = .ok (.iload_n 2, 1) := by decide +kernel
theorem dX10_countRenewal_28 : decode cX10_countRenewal 28 = .ok (.ifCond .eq 10, 3) := by decide +kernel
theorem dX10_countRenewal_31 : decode cX10_countRenewal 31 = .ok (.aload_n 0, 1) := by decide +kernel
theorem dX10_countRenewal_32 : decode cX10_countRenewal 32 = .ok (.getfield 51, 3) := by decide +kernel
theorem dX10_countRenewal_35 : decode cX10_countRenewal 35 = .ok (.goto 7, 3) := by decide +kernel
theorem dX10_countRenewal_38 : decode cX10_countRenewal 38 = .ok (.aload_n 0, 1) := by decide +kernel
theorem dX10_countRenewal_39 : decode cX10_countRenewal 39 = .ok (.getfield 48, 3) := by decide +kernel
theorem dX10_countRenewal_42 : decode cX10_countRenewal 42 = .ok (.astore_n 3, 1) := by decide +kernel
theorem dX10_countRenewal_43 : decode cX10_countRenewal 43 = .ok (.iconst 0, 1) := by decide +kernel
theorem dX10_countRenewal_44 : decode cX10_countRenewal 44 = .ok (.istore 4, 2) := by decide +kernel
theorem dX10_countRenewal_46 : decode cX10_countRenewal 46 = .ok (.iload 4, 2) := by decide +kernel
theorem dX10_countRenewal_48 : decode cX10_countRenewal 48 = .ok (.bipush 8, 2) := by decide +kernel
theorem dX10_countRenewal_50 : decode cX10_countRenewal 50 = .ok (.if_icmp .ge 26, 3) := by decide +kernel
theorem dX10_countRenewal_53 : decode cX10_countRenewal 53 = .ok (.iload_n 1, 1) := by decide +kernel
theorem dX10_countRenewal_54 : decode cX10_countRenewal 54 = .ok (.iload 4, 2) := by decide +kernel
theorem dX10_countRenewal_56 : decode cX10_countRenewal 56 = .ok (.invokestatic 306, 3) := by decide +kernel
theorem dX10_countRenewal_59 : decode cX10_countRenewal 59 = .ok (.ifCond .eq 11, 3) := by decide +kernel
theorem dX10_countRenewal_62 : decode cX10_countRenewal 62 = .ok (.aload_n 3, 1) := by decide +kernel
theorem dX10_countRenewal_63 : decode cX10_countRenewal 63 = .ok (.iload 4, 2) := by decide +kernel
theorem dX10_countRenewal_65 : decode cX10_countRenewal 65 = .ok (.dup2, 1) := by decide +kernel
theorem dX10_countRenewal_66 : decode cX10_countRenewal 66 = .ok (.iaload, 1) := by decide +kernel
theorem dX10_countRenewal_67 : decode cX10_countRenewal 67 = .ok (.iconst 1, 1) := by decide +kernel
theorem dX10_countRenewal_68 : decode cX10_countRenewal 68 = .ok (.iadd, 1) := by decide +kernel
theorem dX10_countRenewal_69 : decode cX10_countRenewal 69 = .ok (.iastore, 1) := by decide +kernel
theorem dX10_countRenewal_70 : decode cX10_countRenewal 70 = .ok (.iinc 4 1, 3) := by decide +kernel
theorem dX10_countRenewal_73 : decode cX10_countRenewal 73 = .ok (.goto (-27), 3) := by decide +kernel
theorem dX10_countRenewal_76 : decode cX10_countRenewal 76 = .ok (.return_, 1) := by decide +kernel
theorem dX10_slotOfFault_0 : decode cX10_slotOfFault 0 = .ok (.iconst 0, 1) := by decide +kernel
theorem dX10_slotOfFault_1 : decode cX10_slotOfFault 1 = .ok (.istore_n 2, 1) := by decide +kernel
theorem dX10_slotOfFault_2 : decode cX10_slotOfFault 2 = .ok (.iconst 0, 1) := by decide +kernel
theorem dX10_slotOfFault_3 : decode cX10_slotOfFault 3 = .ok (.istore_n 3, 1) := by decide +kernel
theorem dX10_slotOfFault_4 : decode cX10_slotOfFault 4 = .ok (.iload_n 3, 1) := by decide +kernel
theorem dX10_slotOfFault_5 : decode cX10_slotOfFault 5 = .ok (.sipush 128, 3) := by decide +kernel
theorem dX10_slotOfFault_8 : decode cX10_slotOfFault 8 = .ok (.if_icmp .ge 30, 3) := by decide +kernel
theorem dX10_slotOfFault_11 : decode cX10_slotOfFault 11 = .ok (.aload_n 0, 1) := by decide +kernel
theorem dX10_slotOfFault_12 : decode cX10_slotOfFault 12 = .ok (.getfield 37, 3) := by decide +kernel
theorem dX10_slotOfFault_15 : decode cX10_slotOfFault 15 = .ok (.iload_n 3, 1) := by decide +kernel
theorem dX10_slotOfFault_16 : decode cX10_slotOfFault 16 = .ok (.invokevirtual 310, 3) := by decide +kernel
theorem dX10_slotOfFault_19 : decode cX10_slotOfFault 19 = .ok (.ifCond .eq 13, 3) := by decide +kernel
theorem dX10_slotOfFault_22 : decode cX10_slotOfFault 22 = .ok (.iload_n 2, 1) := by decide +kernel
theorem dX10_slotOfFault_23 : decode cX10_slotOfFault 23 = .ok (.iload_n 1, 1) := by decide +kernel
theorem dX10_slotOfFault_24 : decode cX10_slotOfFault 24 = .ok (.if_icmp .ne 5, 3) := by decide +kernel
theorem dX10_slotOfFault_27 : decode cX10_slotOfFault 27 = .ok (.iload_n 3, 1) := by decide +kernel
theorem dX10_slotOfFault_28 : decode cX10_slotOfFault 28 = .ok (.ireturn, 1) := by decide +kernel
theorem dX10_slotOfFault_29 : decode cX10_slotOfFault 29 = .ok (.iinc 2 1, 3) := by decide +kernel
theorem dX10_slotOfFault_32 : decode cX10_slotOfFault 32 = .ok (.iinc 3 1, 3) := by decide +kernel
theorem dX10_slotOfFault_35 : decode cX10_slotOfFault 35 = .ok (.goto (-31), 3) := by decide +kernel
theorem dX10_slotOfFault_38 : decode cX10_slotOfFault 38 = .ok (.iconst (-1), 1) := by decide +kernel
theorem dX10_slotOfFault_39 : decode cX10_slotOfFault 39 = .ok (.ireturn, 1) := by decide +kernel
theorem dX10_valueOf_0 : decode cX10_valueOf 0 = .ok (.iconst 0, 1) := by decide +kernel
theorem dX10_valueOf_1 : decode cX10_valueOf 1 = .ok (.istore_n 2, 1) := by decide +kernel
theorem dX10_valueOf_2 : decode cX10_valueOf 2 = .ok (.iconst 1, 1) := by decide +kernel
theorem dX10_valueOf_3 : decode cX10_valueOf 3 = .ok (.istore_n 3, 1) := by decide +kernel
theorem dX10_valueOf_4 : decode cX10_valueOf 4 = .ok (.aload_n 0, 1) := by decide +kernel
theorem dX10_valueOf_5 : decode cX10_valueOf 5 = .ok (.getfield 44, 3) := by decide +kernel
theorem dX10_valueOf_8 : decode cX10_valueOf 8 = .ok (.iconst 0, 1) := by decide +kernel
theorem dX10_valueOf_9 : decode cX10_valueOf 9 = .ok (.iload_n 1, 1) := by decide +kernel
theorem dX10_valueOf_10 : decode cX10_valueOf 10 = .ok (.iastore, 1) := by decide +kernel
theorem dX10_valueOf_11 : decode cX10_valueOf 11 = .ok (.iconst 0, 1) := by decide +kernel
theorem dX10_valueOf_12 : decode cX10_valueOf 12 = .ok (.istore 4, 2) := by decide +kernel
theorem dX10_valueOf_14 : decode cX10_valueOf 14 = .ok (.iload 4, 2) := by decide +kernel
theorem dX10_valueOf_16 : decode cX10_valueOf 16 = .ok (.sipush 400, 3) := by decide +kernel
theorem dX10_valueOf_19 : decode cX10_valueOf 19 = .ok (.if_icmp .gt 120, 3) := by decide +kernel
theorem dX10_valueOf_22 : decode cX10_valueOf 22 = .ok (.iload_n 3, 1) := by decide +kernel
theorem dX10_valueOf_23 : decode cX10_valueOf 23 = .ok (.ifCond .le 116, 3) := by decide +kernel
theorem dX10_valueOf_26 : decode cX10_valueOf 26 = .ok (.iinc 3 (-1), 3) := by decide +kernel
theorem dX10_valueOf_29 : decode cX10_valueOf 29 = .ok (.aload_n 0, 1) := by decide +kernel
theorem dX10_valueOf_30 : decode cX10_valueOf 30 = .ok (.getfield 44, 3) := by decide +kernel
theorem dX10_valueOf_33 : decode cX10_valueOf 33 = .ok (.iload_n 3, 1) := by decide +kernel
theorem dX10_valueOf_34 : decode cX10_valueOf 34 = .ok (.iaload, 1) := by decide +kernel
theorem dX10_valueOf_35 : decode cX10_valueOf 35 = .ok (.sipush 128, 3) := by decide +kernel
theorem dX10_valueOf_38 : decode cX10_valueOf 38 = .ok (.idiv, 1) := by decide +kernel
theorem dX10_valueOf_39 : decode cX10_valueOf 39 = .ok (.istore 5, 2) := by decide +kernel
theorem dX10_valueOf_41 : decode cX10_valueOf 41 = .ok (.aload_n 0, 1) := by decide +kernel
theorem dX10_valueOf_42 : decode cX10_valueOf 42 = .ok (.getfield 44, 3) := by decide +kernel
theorem dX10_valueOf_45 : decode cX10_valueOf 45 = .ok (.iload_n 3, 1) := by decide +kernel
theorem dX10_valueOf_46 : decode cX10_valueOf 46 = .ok (.iaload, 1) := by decide +kernel
theorem dX10_valueOf_47 : decode cX10_valueOf 47 = .ok (.sipush 128, 3) := by decide +kernel
theorem dX10_valueOf_50 : decode cX10_valueOf 50 = .ok (.irem, 1) := by decide +kernel
theorem dX10_valueOf_51 : decode cX10_valueOf 51 = .ok (.istore 6, 2) := by decide +kernel
theorem dX10_valueOf_53 : decode cX10_valueOf 53 = .ok (.aload_n 0, 1) := by decide +kernel
theorem dX10_valueOf_54 : decode cX10_valueOf 54 = .ok (.getfield 37, 3) := by decide +kernel
theorem dX10_valueOf_57 : decode cX10_valueOf 57 = .ok (.iload 6, 2) := by decide +kernel
theorem dX10_valueOf_59 : decode cX10_valueOf 59 = .ok (.invokevirtual 152, 3) := by decide +kernel
theorem dX10_valueOf_62 : decode cX10_valueOf 62 = .ok (.astore 7, 2) := by decide +kernel
theorem dX10_valueOf_64 : decode cX10_valueOf 64 = .ok (.iload 5, 2) := by decide +kernel
theorem dX10_valueOf_66 : decode cX10_valueOf 66 = .ok (.bipush 30, 2) := by decide +kernel
theorem dX10_valueOf_68 : decode cX10_valueOf 68 = .ok (.if_icmp .gt 14, 3) := by decide +kernel
theorem dX10_valueOf_71 : decode cX10_valueOf 71 = .ok (.aload 7, 2) := by decide +kernel
theorem dX10_valueOf_73 : decode cX10_valueOf 73 = .ok (.getfield 195, 3) := by decide +kernel
theorem dX10_valueOf_76 : decode cX10_valueOf 76 = .ok (.iload 6, 2) := by decide +kernel
theorem dX10_valueOf_78 : decode cX10_valueOf 78 = .ok (.iaload, 1) := by decide +kernel
theorem dX10_valueOf_79 : decode cX10_valueOf 79 = .ok (.ifCond .eq 7, 3) := by decide +kernel
theorem dX10_valueOf_82 : decode cX10_valueOf 82 = .ok (.ldc_w 313, 3) := by decide +kernel
theorem dX10_valueOf_85 : decode cX10_valueOf 85 = .ok (.ireturn, 1) := by decide +kernel
theorem dX10_valueOf_86 : decode cX10_valueOf 86 = .ok (.iload_n 2, 1) := by decide +kernel
theorem dX10_valueOf_87 : decode cX10_valueOf 87 = .ok (.aload 7, 2) := by decide +kernel
theorem dX10_valueOf_89 : decode cX10_valueOf 89 = .ok (.getfield 198, 3) := by decide +kernel
theorem dX10_valueOf_92 : decode cX10_valueOf 92 = .ok (.iload 6, 2) := by decide +kernel
theorem dX10_valueOf_94 : decode cX10_valueOf 94 = .ok (.iaload, 1) := by decide +kernel
theorem dX10_valueOf_95 : decode cX10_valueOf 95 = .ok (.iadd, 1) := by decide +kernel
theorem dX10_valueOf_96 : decode cX10_valueOf 96 = .ok (.istore_n 2, 1) := by decide +kernel
theorem dX10_valueOf_97 : decode cX10_valueOf 97 = .ok (.aload_n 0, 1) := by decide +kernel
theorem dX10_valueOf_98 : decode cX10_valueOf 98 = .ok (.iload_n 3, 1) := by decide +kernel
theorem dX10_valueOf_99 : decode cX10_valueOf 99 = .ok (.aload 7, 2) := by decide +kernel
theorem dX10_valueOf_101 : decode cX10_valueOf 101 = .ok (.getfield 314, 3) := by decide +kernel
theorem dX10_valueOf_104 : decode cX10_valueOf 104 = .ok (.iload 6, 2) := by decide +kernel
theorem dX10_valueOf_106 : decode cX10_valueOf 106 = .ok (.iaload, 1) := by decide +kernel
theorem dX10_valueOf_107 : decode cX10_valueOf 107 = .ok (.iload 5, 2) := by decide +kernel
theorem dX10_valueOf_109 : decode cX10_valueOf 109 = .ok (.iconst 1, 1) := by decide +kernel
theorem dX10_valueOf_110 : decode cX10_valueOf 110 = .ok (.iadd, 1) := by decide +kernel
theorem dX10_valueOf_111 : decode cX10_valueOf 111 = .ok (.invokevirtual 317, 3) := by decide +kernel
theorem dX10_valueOf_114 : decode cX10_valueOf 114 = .ok (.istore_n 3, 1) := by decide +kernel
theorem dX10_valueOf_115 : decode cX10_valueOf 115 = .ok (.aload_n 0, 1) := by decide +kernel
theorem dX10_valueOf_116 : decode cX10_valueOf 116 = .ok (.iload_n 3, 1) := by decide +kernel
theorem dX10_valueOf_117 : decode cX10_valueOf 117 = .ok (.aload 7, 2) := by decide +kernel
theorem dX10_valueOf_119 : decode cX10_valueOf 119 = .ok (.getfield 204, 3) := by decide +kernel
theorem dX10_valueOf_122 : decode cX10_valueOf 122 = .ok (.iload 6, 2) := by decide +kernel
theorem dX10_valueOf_124 : decode cX10_valueOf 124 = .ok (.iaload, 1) := by decide +kernel
theorem dX10_valueOf_125 : decode cX10_valueOf 125 = .ok (.iload 5, 2) := by decide +kernel
theorem dX10_valueOf_127 : decode cX10_valueOf 127 = .ok (.iconst 1, 1) := by decide +kernel
theorem dX10_valueOf_128 : decode cX10_valueOf 128 = .ok (.iadd, 1) := by decide +kernel
theorem dX10_valueOf_129 : decode cX10_valueOf 129 = .ok (.invokevirtual 317, 3) := by decide +kernel
theorem dX10_valueOf_132 : decode cX10_valueOf 132 = .ok (.istore_n 3, 1) := by decide +kernel
theorem dX10_valueOf_133 : decode cX10_valueOf 133 = .ok (.iinc 4 1, 3) := by decide +kernel
theorem dX10_valueOf_136 : decode cX10_valueOf 136 = .ok (.goto (-122), 3) := by decide +kernel
theorem dX10_valueOf_139 : decode cX10_valueOf 139 = .ok (.iload_n 3, 1) := by decide +kernel
theorem dX10_valueOf_140 : decode cX10_valueOf 140 = .ok (.ifCond .le 9, 3) := by decide +kernel
theorem dX10_valueOf_143 : decode cX10_valueOf 143 = .ok (.ldc_w 313, 3) := by decide +kernel
theorem dX10_valueOf_146 : decode cX10_valueOf 146 = .ok (.goto 4, 3) := by decide +kernel
theorem dX10_valueOf_149 : decode cX10_valueOf 149 = .ok (.iload_n 2, 1) := by decide +kernel
theorem dX10_valueOf_150 : decode cX10_valueOf 150 = .ok (.ireturn, 1) := by decide +kernel
theorem dX10_openCall_0 : decode cX10_openCall 0 = .ok (.iload_n 2, 1) := by decide +kernel
theorem dX10_openCall_1 : decode cX10_openCall 1 = .ok (.iconst (-1), 1) := by decide +kernel
theorem dX10_openCall_2 : decode cX10_openCall 2 = .ok (.if_icmp .eq 12, 3) := by decide +kernel
theorem dX10_openCall_5 : decode cX10_openCall 5 = .ok (.iload_n 1, 1) := by decide +kernel
theorem dX10_openCall_6 : decode cX10_openCall 6 = .ok (.aload_n 0, 1) := by decide +kernel
theorem dX10_openCall_7 : decode cX10_openCall 7 = .ok (.getfield 44, 3) := by decide +kernel
theorem dX10_openCall_10 : decode cX10_openCall 10 = .ok (.arraylength, 1) := by decide +kernel
theorem dX10_openCall_11 : decode cX10_openCall 11 = .ok (.if_icmp .lt 5, 3) := by decide +kernel
theorem dX10_openCall_14 : decode cX10_openCall 14 = .ok (.iload_n 1, 1) := by decide +kernel
theorem dX10_openCall_15 : decode cX10_openCall 15 = .ok (.ireturn, 1) := by decide +kernel
theorem dX10_openCall_16 : decode cX10_openCall 16 = .ok (.aload_n 0, 1) := by decide +kernel
theorem dX10_openCall_17 : decode cX10_openCall 17 = .ok (.getfield 44, 3) := by decide +kernel
theorem dX10_openCall_20 : decode cX10_openCall 20 = .ok (.iload_n 1, 1) := by decide +kernel
theorem dX10_openCall_21 : decode cX10_openCall 21 = .ok (.iload_n 3, 1) := by decide +kernel
theorem dX10_openCall_22 : decode cX10_openCall 22 = .ok (.sipush 128, 3) := by decide +kernel
theorem dX10_openCall_25 : decode cX10_openCall 25 = .ok (.imul, 1) := by decide +kernel
theorem dX10_openCall_26 : decode cX10_openCall 26 = .ok (.iload_n 2, 1) := by decide +kernel
theorem dX10_openCall_27 : decode cX10_openCall 27 = .ok (.iadd, 1) := by decide +kernel
theorem dX10_openCall_28 : decode cX10_openCall 28 = .ok (.iastore, 1) := by decide +kernel
theorem dX10_openCall_29 : decode cX10_openCall 29 = .ok (.iload_n 1, 1) := by decide +kernel
theorem dX10_openCall_30 : decode cX10_openCall 30 = .ok (.iconst 1, 1) := by decide +kernel
theorem dX10_openCall_31 : decode cX10_openCall 31 = .ok (.iadd, 1) := by decide +kernel
theorem dX10_openCall_32 : decode cX10_openCall 32 = .ok (.ireturn, 1) := by decide +kernel
theorem dJ6_bitCount_0f7a4_0 : decode cJ6_bitCount_0f7a4 0 = .ok (.iload_n 0, 1) := by decide +kernel
theorem dJ6_bitCount_0f7a4_1 : decode cJ6_bitCount_0f7a4 1 = .ok (.iload_n 0, 1) := by decide +kernel
theorem dJ6_bitCount_0f7a4_2 : decode cJ6_bitCount_0f7a4 2 = .ok (.iconst 1, 1) := by decide +kernel
theorem dJ6_bitCount_0f7a4_3 : decode cJ6_bitCount_0f7a4 3 = .ok (.iushr, 1) := by decide +kernel
theorem dJ6_bitCount_0f7a4_4 : decode cJ6_bitCount_0f7a4 4 = .ok (.ldc_w 265, 3) := by decide +kernel
theorem dJ6_bitCount_0f7a4_7 : decode cJ6_bitCount_0f7a4 7 = .ok (.iand, 1) := by decide +kernel
theorem dJ6_bitCount_0f7a4_8 : decode cJ6_bitCount_0f7a4 8 = .ok (.isub, 1) := by decide +kernel
theorem dJ6_bitCount_0f7a4_9 : decode cJ6_bitCount_0f7a4 9 = .ok (.istore_n 0, 1) := by decide +kernel
theorem dJ6_bitCount_0f7a4_10 : decode cJ6_bitCount_0f7a4 10 = .ok (.iload_n 0, 1) := by decide +kernel
theorem dJ6_bitCount_0f7a4_11 : decode cJ6_bitCount_0f7a4 11 = .ok (.ldc_w 266, 3) := by decide +kernel
theorem dJ6_bitCount_0f7a4_14 : decode cJ6_bitCount_0f7a4 14 = .ok (.iand, 1) := by decide +kernel
theorem dJ6_bitCount_0f7a4_15 : decode cJ6_bitCount_0f7a4 15 = .ok (.iload_n 0, 1) := by decide +kernel
theorem dJ6_bitCount_0f7a4_16 : decode cJ6_bitCount_0f7a4 16 = .ok (.iconst 2, 1) := by decide +kernel
theorem dJ6_bitCount_0f7a4_17 : decode cJ6_bitCount_0f7a4 17 = .ok (.iushr, 1) := by decide +kernel
theorem dJ6_bitCount_0f7a4_18 : decode cJ6_bitCount_0f7a4 18 = .ok (.ldc_w 266, 3) := by decide +kernel
theorem dJ6_bitCount_0f7a4_21 : decode cJ6_bitCount_0f7a4 21 = .ok (.iand, 1) := by decide +kernel
theorem dJ6_bitCount_0f7a4_22 : decode cJ6_bitCount_0f7a4 22 = .ok (.iadd, 1) := by decide +kernel
theorem dJ6_bitCount_0f7a4_23 : decode cJ6_bitCount_0f7a4 23 = .ok (.istore_n 0, 1) := by decide +kernel
theorem dJ6_bitCount_0f7a4_24 : decode cJ6_bitCount_0f7a4 24 = .ok (.iload_n 0, 1) := by decide +kernel
theorem dJ6_bitCount_0f7a4_25 : decode cJ6_bitCount_0f7a4 25 = .ok (.iload_n 0, 1) := by decide +kernel
theorem dJ6_bitCount_0f7a4_26 : decode cJ6_bitCount_0f7a4 26 = .ok (.iconst 4, 1) := by decide +kernel
theorem dJ6_bitCount_0f7a4_27 : decode cJ6_bitCount_0f7a4 27 = .ok (.iushr, 1) := by decide +kernel
theorem dJ6_bitCount_0f7a4_28 : decode cJ6_bitCount_0f7a4 28 = .ok (.iadd, 1) := by decide +kernel
theorem dJ6_bitCount_0f7a4_29 : decode cJ6_bitCount_0f7a4 29 = .ok (.ldc_w 267, 3) := by decide +kernel
theorem dJ6_bitCount_0f7a4_32 : decode cJ6_bitCount_0f7a4 32 = .ok (.iand, 1) := by decide +kernel
theorem dJ6_bitCount_0f7a4_33 : decode cJ6_bitCount_0f7a4 33 = .ok (.istore_n 0, 1) := by decide +kernel
theorem dJ6_bitCount_0f7a4_34 : decode cJ6_bitCount_0f7a4 34 = .ok (.iload_n 0, 1) := by decide +kernel
theorem dJ6_bitCount_0f7a4_35 : decode cJ6_bitCount_0f7a4 35 = .ok (.iload_n 0, 1) := by decide +kernel
theorem dJ6_bitCount_0f7a4_36 : decode cJ6_bitCount_0f7a4 36 = .ok (.bipush 8, 2) := by decide +kernel
theorem dJ6_bitCount_0f7a4_38 : decode cJ6_bitCount_0f7a4 38 = .ok (.iushr, 1) := by decide +kernel
theorem dJ6_bitCount_0f7a4_39 : decode cJ6_bitCount_0f7a4 39 = .ok (.iadd, 1) := by decide +kernel
theorem dJ6_bitCount_0f7a4_40 : decode cJ6_bitCount_0f7a4 40 = .ok (.istore_n 0, 1) := by decide +kernel
theorem dJ6_bitCount_0f7a4_41 : decode cJ6_bitCount_0f7a4 41 = .ok (.iload_n 0, 1) := by decide +kernel
theorem dJ6_bitCount_0f7a4_42 : decode cJ6_bitCount_0f7a4 42 = .ok (.iload_n 0, 1) := by decide +kernel
theorem dJ6_bitCount_0f7a4_43 : decode cJ6_bitCount_0f7a4 43 = .ok (.bipush 16, 2) := by decide +kernel
theorem dJ6_bitCount_0f7a4_45 : decode cJ6_bitCount_0f7a4 45 = .ok (.iushr, 1) := by decide +kernel
theorem dJ6_bitCount_0f7a4_46 : decode cJ6_bitCount_0f7a4 46 = .ok (.iadd, 1) := by decide +kernel
theorem dJ6_bitCount_0f7a4_47 : decode cJ6_bitCount_0f7a4 47 = .ok (.istore_n 0, 1) := by decide +kernel
theorem dJ6_bitCount_0f7a4_48 : decode cJ6_bitCount_0f7a4 48 = .ok (.iload_n 0, 1) := by decide +kernel
theorem dJ6_bitCount_0f7a4_49 : decode cJ6_bitCount_0f7a4 49 = .ok (.bipush 63, 2) := by decide +kernel
theorem dJ6_bitCount_0f7a4_51 : decode cJ6_bitCount_0f7a4 51 = .ok (.iand, 1) := by decide +kernel
theorem dJ6_bitCount_0f7a4_52 : decode cJ6_bitCount_0f7a4 52 = .ok (.ireturn, 1) := by decide +kernel
theorem dJ7_fill_d0a16_0 : decode cJ7_fill_d0a16 0 = .ok (.iconst 0, 1) := by decide +kernel
theorem dJ7_fill_d0a16_1 : decode cJ7_fill_d0a16 1 = .ok (.istore_n 3, 1) := by decide +kernel
theorem dJ7_fill_d0a16_2 : decode cJ7_fill_d0a16 2 = .ok (.aload_n 0, 1) := by decide +kernel
theorem dJ7_fill_d0a16_3 : decode cJ7_fill_d0a16 3 = .ok (.arraylength, 1) := by decide +kernel
theorem dJ7_fill_d0a16_4 : decode cJ7_fill_d0a16 4 = .ok (.istore 4, 2) := by decide +kernel
theorem dJ7_fill_d0a16_6 : decode cJ7_fill_d0a16 6 = .ok (.iload_n 3, 1) := by decide +kernel
theorem dJ7_fill_d0a16_7 : decode cJ7_fill_d0a16 7 = .ok (.iload 4, 2) := by decide +kernel
theorem dJ7_fill_d0a16_9 : decode cJ7_fill_d0a16 9 = .ok (.if_icmp .ge 13, 3) := by decide +kernel
theorem dJ7_fill_d0a16_12 : decode cJ7_fill_d0a16 12 = .ok (.aload_n 0, 1) := by decide +kernel
theorem dJ7_fill_d0a16_13 : decode cJ7_fill_d0a16 13 = .ok (.iload_n 3, 1) := by decide +kernel
theorem dJ7_fill_d0a16_14 : decode cJ7_fill_d0a16 14 = .ok (.lload_n 1, 1) := by decide +kernel
theorem dJ7_fill_d0a16_15 : decode cJ7_fill_d0a16 15 = .ok (.lastore, 1) := by decide +kernel
theorem dJ7_fill_d0a16_16 : decode cJ7_fill_d0a16 16 = .ok (.iinc 3 1, 3) := by decide +kernel
theorem dJ7_fill_d0a16_19 : decode cJ7_fill_d0a16 19 = .ok (.goto (-13), 3) := by decide +kernel
theorem dJ7_fill_d0a16_22 : decode cJ7_fill_d0a16 22 = .ok (.return_, 1) := by decide +kernel
theorem dJ7_fill_53178_0 : decode cJ7_fill_53178 0 = .ok (.iconst 0, 1) := by decide +kernel
theorem dJ7_fill_53178_1 : decode cJ7_fill_53178 1 = .ok (.istore_n 2, 1) := by decide +kernel
theorem dJ7_fill_53178_2 : decode cJ7_fill_53178 2 = .ok (.aload_n 0, 1) := by decide +kernel
theorem dJ7_fill_53178_3 : decode cJ7_fill_53178 3 = .ok (.arraylength, 1) := by decide +kernel
theorem dJ7_fill_53178_4 : decode cJ7_fill_53178 4 = .ok (.istore_n 3, 1) := by decide +kernel
theorem dJ7_fill_53178_5 : decode cJ7_fill_53178 5 = .ok (.iload_n 2, 1) := by decide +kernel
theorem dJ7_fill_53178_6 : decode cJ7_fill_53178 6 = .ok (.iload_n 3, 1) := by decide +kernel
theorem dJ7_fill_53178_7 : decode cJ7_fill_53178 7 = .ok (.if_icmp .ge 13, 3) := by decide +kernel
theorem dJ7_fill_53178_10 : decode cJ7_fill_53178 10 = .ok (.aload_n 0, 1) := by decide +kernel
theorem dJ7_fill_53178_11 : decode cJ7_fill_53178 11 = .ok (.iload_n 2, 1) := by decide +kernel
theorem dJ7_fill_53178_12 : decode cJ7_fill_53178 12 = .ok (.iload_n 1, 1) := by decide +kernel
theorem dJ7_fill_53178_13 : decode cJ7_fill_53178 13 = .ok (.iastore, 1) := by decide +kernel
theorem dJ7_fill_53178_14 : decode cJ7_fill_53178 14 = .ok (.iinc 2 1, 3) := by decide +kernel
theorem dJ7_fill_53178_17 : decode cJ7_fill_53178 17 = .ok (.goto (-12), 3) := by decide +kernel
theorem dJ7_fill_53178_20 : decode cJ7_fill_53178 20 = .ok (.return_, 1) := by decide +kernel
theorem dL_below_0 : decode cL_below 0 = .ok (.iload_n 0, 1) := by decide +kernel
theorem dL_below_1 : decode cL_below 1 = .ok (.ldc 7, 2) := by decide +kernel
theorem dL_below_3 : decode cL_below 3 = .ok (.iand, 1) := by decide +kernel
theorem dL_below_4 : decode cL_below 4 = .ok (.iload_n 1, 1) := by decide +kernel
theorem dL_below_5 : decode cL_below 5 = .ok (.irem, 1) := by decide +kernel
theorem dL_below_6 : decode cL_below 6 = .ok (.ireturn, 1) := by decide +kernel
theorem dL_cell_0 : decode cL_cell 0 = .ok (.iload_n 1, 1) := by decide +kernel
theorem dL_cell_1 : decode cL_cell 1 = .ok (.aload_n 0, 1) := by decide +kernel
theorem dL_cell_2 : decode cL_cell 2 = .ok (.arraylength, 1) := by decide +kernel
theorem dL_cell_3 : decode cL_cell 3 = .ok (.if_icmp .ge 9, 3) := by decide +kernel
theorem dL_cell_6 : decode cL_cell 6 = .ok (.aload_n 0, 1) := by decide +kernel
theorem dL_cell_7 : decode cL_cell 7 = .ok (.iload_n 1, 1) := by decide +kernel
theorem dL_cell_8 : decode cL_cell 8 = .ok (.iaload, 1) := by decide +kernel
theorem dL_cell_9 : decode cL_cell 9 = .ok (.goto 9, 3) := by decide +kernel
theorem dL_cell_12 : decode cL_cell 12 = .ok (.ldc 8, 2) := by decide +kernel
theorem dL_cell_14 : decode cL_cell 14 = .ok (.iload_n 1, 1) := by decide +kernel
theorem dL_cell_15 : decode cL_cell 15 = .ok (.iconst 3, 1) := by decide +kernel
theorem dL_cell_16 : decode cL_cell 16 = .ok (.iadd, 1) := by decide +kernel
theorem dL_cell_17 : decode cL_cell 17 = .ok (.imul, 1) := by decide +kernel
theorem dL_cell_18 : decode cL_cell 18 = .ok (.ireturn, 1) := by decide +kernel
theorem dL_law_0 : decode cL_law 0 = .ok (.new 9, 3) := by decide +kernel
theorem dL_law_3 : decode cL_law 3 = .ok (.dup, 1) := by decide +kernel
theorem dL_law_4 : decode cL_law 4 = .ok (.invokespecial 11, 3) := by decide +kernel
theorem dL_law_7 : decode cL_law 7 = .ok (.astore_n 1, 1) := by decide +kernel
theorem dL_law_8 : decode cL_law 8 = .ok (.iconst 2, 1) := by decide +kernel
theorem dL_law_9 : decode cL_law 9 = .ok (.aload_n 0, 1) := by decide +kernel
theorem dL_law_10 : decode cL_law 10 = .ok (.iconst 0, 1) := by decide +kernel
theorem dL_law_11 : decode cL_law 11 = .ok (.invokestatic 12, 3) := by decide +kernel
theorem dL_law_14 : decode cL_law 14 = .ok (.bipush 6, 2) := by decide +kernel
theorem dL_law_16 : decode cL_law 16 = .ok (.invokestatic 18, 3) := by decide +kernel
theorem dL_law_19 : decode cL_law 19 = .ok (.iadd, 1) := by decide +kernel
theorem dL_law_20 : decode cL_law 20 = .ok (.istore_n 2, 1) := by decide +kernel
theorem dL_law_21 : decode cL_law 21 = .ok (.iconst 0, 1) := by decide +kernel
theorem dL_law_22 : decode cL_law 22 = .ok (.istore_n 3, 1) := by decide +kernel
theorem dL_law_23 : decode cL_law 23 = .ok (.iload_n 3, 1) := by decide +kernel
theorem dL_law_24 : decode cL_law 24 = .ok (.iload_n 2, 1) := by decide +kernel
theorem dL_law_25 : decode cL_law 25 = .ok (.if_icmp .ge 19, 3) := by decide +kernel
theorem dL_law_28 : decode cL_law 28 = .ok (.aload_n 1, 1) := by decide +kernel
theorem dL_law_29 : decode cL_law 29 = .ok (.invokevirtual 22, 3) := by decide +kernel
theorem dL_law_32 : decode cL_law 32 = .ok (.iload_n 3, 1) := by decide +kernel
theorem dL_law_33 : decode cL_law 33 = .ok (.if_icmp .eq 5, 3) := by decide +kernel
theorem dL_law_36 : decode cL_law 36 = .ok (.iconst 0, 1) := by decide +kernel
theorem dL_law_37 : decode cL_law 37 = .ok (.ireturn, 1) := by decide +kernel
theorem dL_law_38 : decode cL_law 38 = .ok (.iinc 3 1, 3) := by decide +kernel
theorem dL_law_41 : decode cL_law 41 = .ok (.goto (-18), 3) := by decide +kernel
theorem dL_law_44 : decode cL_law 44 = .ok (.iconst 0, 1) := by decide +kernel
theorem dL_law_45 : decode cL_law 45 = .ok (.istore_n 3, 1) := by decide +kernel
theorem dL_law_46 : decode cL_law 46 = .ok (.iload_n 3, 1) := by decide +kernel
theorem dL_law_47 : decode cL_law 47 = .ok (.bipush 20, 2) := by decide +kernel
theorem dL_law_49 : decode cL_law 49 = .ok (.if_icmp .ge 49, 3) := by decide +kernel
theorem dL_law_52 : decode cL_law 52 = .ok (.aload_n 1, 1) := by decide +kernel
theorem dL_law_53 : decode cL_law 53 = .ok (.iload_n 2, 1) := by decide +kernel
theorem dL_law_54 : decode cL_law 54 = .ok (.aload_n 0, 1) := by decide +kernel
theorem dL_law_55 : decode cL_law 55 = .ok (.iload_n 3, 1) := by decide +kernel
theorem dL_law_56 : decode cL_law 56 = .ok (.bipush 16, 2) := by decide +kernel
theorem dL_law_58 : decode cL_law 58 = .ok (.irem, 1) := by decide +kernel
theorem dL_law_59 : decode cL_law 59 = .ok (.invokestatic 12, 3) := by decide +kernel
theorem dL_law_62 : decode cL_law 62 = .ok (.bipush 29, 2) := by decide +kernel
theorem dL_law_64 : decode cL_law 64 = .ok (.iload_n 3, 1) := by decide +kernel
theorem dL_law_65 : decode cL_law 65 = .ok (.imul, 1) := by decide +kernel
theorem dL_law_66 : decode cL_law 66 = .ok (.iadd, 1) := by decide +kernel
theorem dL_law_67 : decode cL_law 67 = .ok (.aload_n 0, 1) := by decide +kernel
theorem dL_law_68 : decode cL_law 68 = .ok (.iconst 5, 1) := by decide +kernel
theorem dL_law_69 : decode cL_law 69 = .ok (.iload_n 3, 1) := by decide +kernel
theorem dL_law_70 : decode cL_law 70 = .ok (.imul, 1) := by decide +kernel
theorem dL_law_71 : decode cL_law 71 = .ok (.iconst 2, 1) := by decide +kernel
theorem dL_law_72 : decode cL_law 72 = .ok (.iadd, 1) := by decide +kernel
theorem dL_law_73 : decode cL_law 73 = .ok (.bipush 16, 2) := by decide +kernel
theorem dL_law_75 : decode cL_law 75 = .ok (.irem, 1) := by decide +kernel
theorem dL_law_76 : decode cL_law 76 = .ok (.invokestatic 12, 3) := by decide +kernel
theorem dL_law_79 : decode cL_law 79 = .ok (.bipush 17, 2) := by decide +kernel
theorem dL_law_81 : decode cL_law 81 = .ok (.iload_n 3, 1) := by decide +kernel
theorem dL_law_82 : decode cL_law 82 = .ok (.imul, 1) := by decide +kernel
theorem dL_law_83 : decode cL_law 83 = .ok (.iadd, 1) := by decide +kernel
theorem dL_law_84 : decode cL_law 84 = .ok (.invokestatic 26, 3) := by decide +kernel
theorem dL_law_87 : decode cL_law 87 = .ok (.ifCond .ne 5, 3) := by decide +kernel
theorem dL_law_90 : decode cL_law 90 = .ok (.iconst 0, 1) := by decide +kernel
theorem dL_law_91 : decode cL_law 91 = .ok (.ireturn, 1) := by decide +kernel
theorem dL_law_92 : decode cL_law 92 = .ok (.iinc 3 1, 3) := by decide +kernel
theorem dL_law_95 : decode cL_law 95 = .ok (.goto (-49), 3) := by decide +kernel
theorem dL_law_98 : decode cL_law 98 = .ok (.iconst 0, 1) := by decide +kernel
theorem dL_law_99 : decode cL_law 99 = .ok (.istore_n 3, 1) := by decide +kernel
theorem dL_law_100 : decode cL_law 100 = .ok (.iload_n 3, 1) := by decide +kernel
theorem dL_law_101 : decode cL_law 101 = .ok (.iconst 5, 1) := by decide +kernel
theorem dL_law_102 : decode cL_law 102 = .ok (.if_icmp .ge 342, 3) := by decide +kernel
theorem dL_law_105 : decode cL_law 105 = .ok (.aload_n 1, 1) := by decide +kernel
theorem dL_law_106 : decode cL_law 106 = .ok (.invokevirtual 30, 3) := by decide +kernel
theorem dL_law_109 : decode cL_law 109 = .ok (.istore 4, 2) := by decide +kernel
theorem dL_law_111 : decode cL_law 111 = .ok (.aload_n 1, 1) := by decide +kernel
theorem dL_law_112 : decode cL_law 112 = .ok (.iconst 1, 1) := by decide +kernel
theorem dL_law_113 : decode cL_law 113 = .ok (.invokevirtual 33, 3) := by decide +kernel
theorem dL_law_116 : decode cL_law 116 = .ok (.iload 4, 2) := by decide +kernel
theorem dL_law_118 : decode cL_law 118 = .ok (.if_icmp .ne 39, 3) := by decide +kernel
theorem dL_law_121 : decode cL_law 121 = .ok (.aload_n 1, 1) := by decide +kernel
theorem dL_law_122 : decode cL_law 122 = .ok (.iconst 3, 1) := by decide +kernel
theorem dL_law_123 : decode cL_law 123 = .ok (.invokevirtual 33, 3) := by decide +kernel
theorem dL_law_126 : decode cL_law 126 = .ok (.iload 4, 2) := by decide +kernel
theorem dL_law_128 : decode cL_law 128 = .ok (.if_icmp .gt 29, 3) := by decide +kernel
theorem dL_law_131 : decode cL_law 131 = .ok (.aload_n 1, 1) := by decide +kernel
theorem dL_law_132 : decode cL_law 132 = .ok (.iconst 4, 1) := by decide +kernel
theorem dL_law_133 : decode cL_law 133 = .ok (.invokevirtual 37, 3) := by decide +kernel
theorem dL_law_136 : decode cL_law 136 = .ok (.ifCond .le 7, 3) := by decide +kernel
theorem dL_law_139 : decode cL_law 139 = .ok (.iconst 1, 1) := by decide +kernel
theorem dL_law_140 : decode cL_law 140 = .ok (.goto 4, 3) := by decide +kernel
theorem dL_law_143 : decode cL_law 143 = .ok (.iconst 0, 1) := by decide +kernel
theorem dL_law_144 : decode cL_law 144 = .ok (.iload 4, 2) := by decide +kernel
theorem dL_law_146 : decode cL_law 146 = .ok (.ifCond .le 7, 3) := by decide +kernel
theorem dL_law_149 : decode cL_law 149 = .ok (.iconst 1, 1) := by decide +kernel
theorem dL_law_150 : decode cL_law 150 = .ok (.goto 4, 3) := by decide +kernel
theorem dL_law_153 : decode cL_law 153 = .ok (.iconst 0, 1) := by decide +kernel
theorem dL_law_154 : decode cL_law 154 = .ok (.if_icmp .eq 5, 3) := by decide +kernel
theorem dL_law_157 : decode cL_law 157 = .ok (.iconst 0, 1) := by decide +kernel
theorem dL_law_158 : decode cL_law 158 = .ok (.ireturn, 1) := by decide +kernel
theorem dL_law_159 : decode cL_law 159 = .ok (.aload_n 1, 1) := by decide +kernel
theorem dL_law_160 : decode cL_law 160 = .ok (.bipush 7, 2) := by decide +kernel
theorem dL_law_162 : decode cL_law 162 = .ok (.invokevirtual 37, 3) := by decide +kernel
theorem dL_law_165 : decode cL_law 165 = .ok (.aload_n 1, 1) := by decide +kernel
theorem dL_law_166 : decode cL_law 166 = .ok (.bipush 8, 2) := by decide +kernel
theorem dL_law_168 : decode cL_law 168 = .ok (.invokevirtual 37, 3) := by decide +kernel
theorem dL_law_171 : decode cL_law 171 = .ok (.iadd, 1) := by decide +kernel
theorem dL_law_172 : decode cL_law 172 = .ok (.istore 5, 2) := by decide +kernel
theorem dL_law_174 : decode cL_law 174 = .ok (.aload_n 1, 1) := by decide +kernel
theorem dL_law_175 : decode cL_law 175 = .ok (.iconst 1, 1) := by decide +kernel
theorem dL_law_176 : decode cL_law 176 = .ok (.aload_n 0, 1) := by decide +kernel
theorem dL_law_177 : decode cL_law 177 = .ok (.iload_n 3, 1) := by decide +kernel
theorem dL_law_178 : decode cL_law 178 = .ok (.bipush 6, 2) := by decide +kernel
theorem dL_law_180 : decode cL_law 180 = .ok (.iadd, 1) := by decide +kernel
theorem dL_law_181 : decode cL_law 181 = .ok (.invokestatic 12, 3) := by decide +kernel
theorem dL_law_184 : decode cL_law 184 = .ok (.iconst 3, 1) := by decide +kernel
theorem dL_law_185 : decode cL_law 185 = .ok (.invokestatic 18, 3) := by decide +kernel
theorem dL_law_188 : decode cL_law 188 = .ok (.iadd, 1) := by decide +kernel
theorem dL_law_189 : decode cL_law 189 = .ok (.invokevirtual 40, 3) := by decide +kernel
theorem dL_law_192 : decode cL_law 192 = .ok (.istore 6, 2) := by decide +kernel
theorem dL_law_194 : decode cL_law 194 = .ok (.iload 6, 2) := by decide +kernel
theorem dL_law_196 : decode cL_law 196 = .ok (.iload 4, 2) := by decide +kernel
theorem dL_law_198 : decode cL_law 198 = .ok (.if_icmp .gt 36, 3) := by decide +kernel
theorem dL_law_201 : decode cL_law 201 = .ok (.aload_n 1, 1) := by decide +kernel
theorem dL_law_202 : decode cL_law 202 = .ok (.bipush 7, 2) := by decide +kernel
theorem dL_law_204 : decode cL_law 204 = .ok (.invokevirtual 37, 3) := by decide +kernel
theorem dL_law_207 : decode cL_law 207 = .ok (.aload_n 1, 1) := by decide +kernel
theorem dL_law_208 : decode cL_law 208 = .ok (.bipush 8, 2) := by decide +kernel
theorem dL_law_210 : decode cL_law 210 = .ok (.invokevirtual 37, 3) := by decide +kernel
theorem dL_law_213 : decode cL_law 213 = .ok (.iadd, 1) := by decide +kernel
theorem dL_law_214 : decode cL_law 214 = .ok (.iload 5, 2) := by decide +kernel
theorem dL_law_216 : decode cL_law 216 = .ok (.iload 6, 2) := by decide +kernel
theorem dL_law_218 : decode cL_law 218 = .ok (.iadd, 1) := by decide +kernel
theorem dL_law_219 : decode cL_law 219 = .ok (.if_icmp .ne 15, 3) := by decide +kernel
theorem dL_law_222 : decode cL_law 222 = .ok (.aload_n 1, 1) := by decide +kernel
theorem dL_law_223 : decode cL_law 223 = .ok (.invokevirtual 30, 3) := by decide +kernel
theorem dL_law_226 : decode cL_law 226 = .ok (.iload 4, 2) := by decide +kernel
theorem dL_law_228 : decode cL_law 228 = .ok (.iload 6, 2) := by decide +kernel
theorem dL_law_230 : decode cL_law 230 = .ok (.isub, 1) := by decide +kernel
theorem dL_law_231 : decode cL_law 231 = .ok (.if_icmp .le 5, 3) := by decide +kernel
theorem dL_law_234 : decode cL_law 234 = .ok (.iconst 0, 1) := by decide +kernel
theorem dL_law_235 : decode cL_law 235 = .ok (.ireturn, 1) := by decide +kernel
theorem dL_law_236 : decode cL_law 236 = .ok (.aload_n 1, 1) := by decide +kernel
theorem dL_law_237 : decode cL_law 237 = .ok (.invokevirtual 30, 3) := by decide +kernel
theorem dL_law_240 : decode cL_law 240 = .ok (.istore 7, 2) := by decide +kernel
theorem dL_law_242 : decode cL_law 242 = .ok (.aload_n 1, 1) := by decide +kernel
theorem dL_law_243 : decode cL_law 243 = .ok (.bipush 8, 2) := by decide +kernel
theorem dL_law_245 : decode cL_law 245 = .ok (.invokevirtual 40, 3) := by decide +kernel
theorem dL_law_248 : decode cL_law 248 = .ok (.iload 7, 2) := by decide +kernel
theorem dL_law_250 : decode cL_law 250 = .ok (.if_icmp .ne 44, 3) := by decide +kernel
theorem dL_law_253 : decode cL_law 253 = .ok (.aload_n 1, 1) := by decide +kernel
theorem dL_law_254 : decode cL_law 254 = .ok (.iconst 4, 1) := by decide +kernel
theorem dL_law_255 : decode cL_law 255 = .ok (.invokevirtual 37, 3) := by decide +kernel
theorem dL_law_258 : decode cL_law 258 = .ok (.ifCond .ne 36, 3) := by decide +kernel
theorem dL_law_261 : decode cL_law 261 = .ok (.aload_n 1, 1) := by decide +kernel
theorem dL_law_262 : decode cL_law 262 = .ok (.invokevirtual 30, 3) := by decide +kernel
theorem dL_law_265 : decode cL_law 265 = .ok (.ifCond .ne 29, 3) := by decide +kernel
theorem dL_law_268 : decode cL_law 268 = .ok (.aload_n 1, 1) := by decide +kernel
theorem dL_law_269 : decode cL_law 269 = .ok (.invokevirtual 43, 3) := by decide +kernel
theorem dL_law_272 : decode cL_law 272 = .ok (.ifCond .eq 22, 3) := by decide +kernel
theorem dL_law_275 : decode cL_law 275 = .ok (.aload_n 1, 1) := by decide +kernel
theorem dL_law_276 : decode cL_law 276 = .ok (.bipush 6, 2) := by decide +kernel
theorem dL_law_278 : decode cL_law 278 = .ok (.invokevirtual 37, 3) := by decide +kernel
theorem dL_law_281 : decode cL_law 281 = .ok (.bipush 10, 2) := by decide +kernel
theorem dL_law_283 : decode cL_law 283 = .ok (.if_icmp .gt 11, 3) := by decide +kernel
theorem dL_law_286 : decode cL_law 286 = .ok (.aload_n 1, 1) := by decide +kernel
theorem dL_law_287 : decode cL_law 287 = .ok (.iload_n 2, 1) := by decide +kernel
theorem dL_law_288 : decode cL_law 288 = .ok (.invokestatic 47, 3) := by decide +kernel
theorem dL_law_291 : decode cL_law 291 = .ok (.ifCond .ne 5, 3) := by decide +kernel
theorem dL_law_294 : decode cL_law 294 = .ok (.iconst 0, 1) := by decide +kernel
theorem dL_law_295 : decode cL_law 295 = .ok (.ireturn, 1) := by decide +kernel
theorem dL_law_296 : decode cL_law 296 = .ok (.bipush 16, 2) := by decide +kernel
theorem dL_law_298 : decode cL_law 298 = .ok (.iload_n 2, 1) := by decide +kernel
theorem dL_law_299 : decode cL_law 299 = .ok (.imul, 1) := by decide +kernel
theorem dL_law_300 : decode cL_law 300 = .ok (.newarray .int, 2) := by decide +kernel
theorem dL_law_302 : decode cL_law 302 = .ok (.astore 8, 2) := by decide +kernel
theorem dL_law_304 : decode cL_law 304 = .ok (.iconst 0, 1) := by decide +kernel
theorem dL_law_305 : decode cL_law 305 = .ok (.istore 9, 2) := by decide +kernel
theorem dL_law_307 : decode cL_law 307 = .ok (.iload 9, 2) := by decide +kernel
theorem dL_law_309 : decode cL_law 309 = .ok (.aload 8, 2) := by decide +kernel
theorem dL_law_311 : decode cL_law 311 = .ok (.arraylength, 1) := by decide +kernel
theorem dL_law_312 : decode cL_law 312 = .ok (.if_icmp .ge 28, 3) := by decide +kernel
theorem dL_law_315 : decode cL_law 315 = .ok (.aload 8, 2) := by decide +kernel
theorem dL_law_317 : decode cL_law 317 = .ok (.iload 9, 2) := by decide +kernel
theorem dL_law_319 : decode cL_law 319 = .ok (.aload_n 1, 1) := by decide +kernel
theorem dL_law_320 : decode cL_law 320 = .ok (.iload 9, 2) := by decide +kernel
theorem dL_law_322 : decode cL_law 322 = .ok (.bipush 16, 2) := by decide +kernel
theorem dL_law_324 : decode cL_law 324 = .ok (.idiv, 1) := by decide +kernel
theorem dL_law_325 : decode cL_law 325 = .ok (.iload 9, 2) := by decide +kernel
theorem dL_law_327 : decode cL_law 327 = .ok (.bipush 16, 2) := by decide +kernel
theorem dL_law_329 : decode cL_law 329 = .ok (.irem, 1) := by decide +kernel
theorem dL_law_330 : decode cL_law 330 = .ok (.invokevirtual 51, 3) := by decide +kernel
theorem dL_law_333 : decode cL_law 333 = .ok (.iastore, 1) := by decide +kernel
theorem dL_law_334 : decode cL_law 334 = .ok (.iinc 9 1, 3) := by decide +kernel
theorem dL_law_337 : decode cL_law 337 = .ok (.goto (-30), 3) := by decide +kernel
theorem dL_law_340 : decode cL_law 340 = .ok (.iconst 0, 1) := by decide +kernel
theorem dL_law_341 : decode cL_law 341 = .ok (.istore 9, 2) := by decide +kernel
theorem dL_law_343 : decode cL_law 343 = .ok (.iload 9, 2) := by decide +kernel
theorem dL_law_345 : decode cL_law 345 = .ok (.iconst 3, 1) := by decide +kernel
theorem dL_law_346 : decode cL_law 346 = .ok (.if_icmp .ge 51, 3) := by decide +kernel
theorem dL_law_349 : decode cL_law 349 = .ok (.aload_n 1, 1) := by decide +kernel
theorem dL_law_350 : decode cL_law 350 = .ok (.iload_n 2, 1) := by decide +kernel
theorem dL_law_351 : decode cL_law 351 = .ok (.aload_n 0, 1) := by decide +kernel
theorem dL_law_352 : decode cL_law 352 = .ok (.iload 9, 2) := by decide +kernel
theorem dL_law_354 : decode cL_law 354 = .ok (.iconst 4, 1) := by decide +kernel
theorem dL_law_355 : decode cL_law 355 = .ok (.iload_n 3, 1) := by decide +kernel
theorem dL_law_356 : decode cL_law 356 = .ok (.imul, 1) := by decide +kernel
theorem dL_law_357 : decode cL_law 357 = .ok (.iadd, 1) := by decide +kernel
theorem dL_law_358 : decode cL_law 358 = .ok (.bipush 16, 2) := by decide +kernel
theorem dL_law_360 : decode cL_law 360 = .ok (.irem, 1) := by decide +kernel
theorem dL_law_361 : decode cL_law 361 = .ok (.invokestatic 12, 3) := by decide +kernel
theorem dL_law_364 : decode cL_law 364 = .ok (.iload 9, 2) := by decide +kernel
theorem dL_law_366 : decode cL_law 366 = .ok (.iadd, 1) := by decide +kernel
theorem dL_law_367 : decode cL_law 367 = .ok (.aload_n 0, 1) := by decide +kernel
theorem dL_law_368 : decode cL_law 368 = .ok (.iload 9, 2) := by decide +kernel
theorem dL_law_370 : decode cL_law 370 = .ok (.iload_n 3, 1) := by decide +kernel
theorem dL_law_371 : decode cL_law 371 = .ok (.iadd, 1) := by decide +kernel
theorem dL_law_372 : decode cL_law 372 = .ok (.bipush 7, 2) := by decide +kernel
theorem dL_law_374 : decode cL_law 374 = .ok (.iadd, 1) := by decide +kernel
theorem dL_law_375 : decode cL_law 375 = .ok (.bipush 16, 2) := by decide +kernel
theorem dL_law_377 : decode cL_law 377 = .ok (.irem, 1) := by decide +kernel
theorem dL_law_378 : decode cL_law 378 = .ok (.invokestatic 12, 3) := by decide +kernel
theorem dL_law_381 : decode cL_law 381 = .ok (.iload_n 3, 1) := by decide +kernel
theorem dL_law_382 : decode cL_law 382 = .ok (.iadd, 1) := by decide +kernel
theorem dL_law_383 : decode cL_law 383 = .ok (.invokestatic 26, 3) := by decide +kernel
theorem dL_law_386 : decode cL_law 386 = .ok (.ifCond .ne 5, 3) := by decide +kernel
theorem dL_law_389 : decode cL_law 389 = .ok (.iconst 0, 1) := by decide +kernel
theorem dL_law_390 : decode cL_law 390 = .ok (.ireturn, 1) := by decide +kernel
theorem dL_law_391 : decode cL_law 391 = .ok (.iinc 9 1, 3) := by decide +kernel
theorem dL_law_394 : decode cL_law 394 = .ok (.goto (-51), 3) := by decide +kernel
theorem dL_law_397 : decode cL_law 397 = .ok (.iconst 0, 1) := by decide +kernel
theorem dL_law_398 : decode cL_law 398 = .ok (.istore 9, 2) := by decide +kernel
theorem dL_law_400 : decode cL_law 400 = .ok (.iload 9, 2) := by decide +kernel
theorem dL_law_402 : decode cL_law 402 = .ok (.aload 8, 2) := by decide +kernel
theorem dL_law_404 : decode cL_law 404 = .ok (.arraylength, 1) := by decide +kernel
theorem dL_law_405 : decode cL_law 405 = .ok (.if_icmp .ge 33, 3) := by decide +kernel
theorem dL_law_408 : decode cL_law 408 = .ok (.aload_n 1, 1) := by decide +kernel
theorem dL_law_409 : decode cL_law 409 = .ok (.iload 9, 2) := by decide +kernel
theorem dL_law_411 : decode cL_law 411 = .ok (.bipush 16, 2) := by decide +kernel
theorem dL_law_413 : decode cL_law 413 = .ok (.idiv, 1) := by decide +kernel
theorem dL_law_414 : decode cL_law 414 = .ok (.iload 9, 2) := by decide +kernel
theorem dL_law_416 : decode cL_law 416 = .ok (.bipush 16, 2) := by decide +kernel
theorem dL_law_418 : decode cL_law 418 = .ok (.irem, 1) := by decide +kernel
theorem dL_law_419 : decode cL_law 419 = .ok (.invokevirtual 51, 3) := by decide +kernel
theorem dL_law_422 : decode cL_law 422 = .ok (.aload 8, 2) := by decide +kernel
theorem dL_law_424 : decode cL_law 424 = .ok (.iload 9, 2) := by decide +kernel
theorem dL_law_426 : decode cL_law 426 = .ok (.iaload, 1) := by decide +kernel
theorem dL_law_427 : decode cL_law 427 = .ok (.if_icmp .eq 5, 3) := by decide +kernel
theorem dL_law_430 : decode cL_law 430 = .ok (.iconst 0, 1) := by decide +kernel
theorem dL_law_431 : decode cL_law 431 = .ok (.ireturn, 1) := by decide +kernel
theorem dL_law_432 : decode cL_law 432 = .ok (.iinc 9 1, 3) := by decide +kernel
theorem dL_law_435 : decode cL_law 435 = .ok (.goto (-35), 3) := by decide +kernel
theorem dL_law_438 : decode cL_law 438 = .ok (.iinc 3 1, 3) := by decide +kernel
theorem dL_law_441 : decode cL_law 441 = .ok (.goto (-341), 3) := by decide +kernel
theorem dL_law_444 : decode cL_law 444 = .ok (.aload_n 1, 1) := by decide +kernel
theorem dL_law_445 : decode cL_law 445 = .ok (.invokevirtual 54, 3) := by decide +kernel
theorem dL_law_448 : decode cL_law 448 = .ok (.lstore_n 3, 1) := by decide +kernel
theorem dL_law_449 : decode cL_law 449 = .ok (.aload_n 1, 1) := by decide +kernel
theorem dL_law_450 : decode cL_law 450 = .ok (.iconst 0, 1) := by decide +kernel
theorem dL_law_451 : decode cL_law 451 = .ok (.iconst 0, 1) := by decide +kernel
theorem dL_law_452 : decode cL_law 452 = .ok (.iconst 1, 1) := by decide +kernel
theorem dL_law_453 : decode cL_law 453 = .ok (.invokevirtual 58, 3) := by decide +kernel
theorem dL_law_456 : decode cL_law 456 = .ok (.ifCond .lt 11, 3) := by decide +kernel
theorem dL_law_459 : decode cL_law 459 = .ok (.aload_n 1, 1) := by decide +kernel
theorem dL_law_460 : decode cL_law 460 = .ok (.iconst 2, 1) := by decide +kernel
theorem dL_law_461 : decode cL_law 461 = .ok (.invokevirtual 33, 3) := by decide +kernel
theorem dL_law_464 : decode cL_law 464 = .ok (.ifCond .ge 5, 3) := by decide +kernel
theorem dL_law_467 : decode cL_law 467 = .ok (.iconst 0, 1) := by decide +kernel
theorem dL_law_468 : decode cL_law 468 = .ok (.ireturn, 1) := by decide +kernel
theorem dL_law_469 : decode cL_law 469 = .ok (.aload_n 1, 1) := by decide +kernel
theorem dL_law_470 : decode cL_law 470 = .ok (.invokevirtual 54, 3) := by decide +kernel
theorem dL_law_473 : decode cL_law 473 = .ok (.lload_n 3, 1) := by decide +kernel
theorem dL_law_474 : decode cL_law 474 = .ok (.lcmp, 1) := by decide +kernel
theorem dL_law_475 : decode cL_law 475 = .ok (.ifCond .ne 7, 3) := by decide +kernel
theorem dL_law_478 : decode cL_law 478 = .ok (.iconst 1, 1) := by decide +kernel
theorem dL_law_479 : decode cL_law 479 = .ok (.goto 4, 3) := by decide +kernel
theorem dL_law_482 : decode cL_law 482 = .ok (.iconst 0, 1) := by decide +kernel
theorem dL_law_483 : decode cL_law 483 = .ok (.ireturn, 1) := by decide +kernel
theorem dL_isBuilt_0 : decode cL_isBuilt 0 = .ok (.iconst 0, 1) := by decide +kernel
theorem dL_isBuilt_1 : decode cL_isBuilt 1 = .ok (.istore_n 2, 1) := by decide +kernel
theorem dL_isBuilt_2 : decode cL_isBuilt 2 = .ok (.iconst 0, 1) := by decide +kernel
theorem dL_isBuilt_3 : decode cL_isBuilt 3 = .ok (.istore_n 3, 1) := by decide +kernel
theorem dL_isBuilt_4 : decode cL_isBuilt 4 = .ok (.iload_n 3, 1) := by decide +kernel
theorem dL_isBuilt_5 : decode cL_isBuilt 5 = .ok (.iload_n 1, 1) := by decide +kernel
theorem dL_isBuilt_6 : decode cL_isBuilt 6 = .ok (.if_icmp .ge 172, 3) := by decide +kernel
theorem dL_isBuilt_9 : decode cL_isBuilt 9 = .ok (.iconst 0, 1) := by decide +kernel
theorem dL_isBuilt_10 : decode cL_isBuilt 10 = .ok (.istore 4, 2) := by decide +kernel
theorem dL_isBuilt_12 : decode cL_isBuilt 12 = .ok (.iload 4, 2) := by decide +kernel
theorem dL_isBuilt_14 : decode cL_isBuilt 14 = .ok (.bipush 16, 2) := by decide +kernel
theorem dL_isBuilt_16 : decode cL_isBuilt 16 = .ok (.if_icmp .ge 156, 3) := by decide +kernel
theorem dL_isBuilt_19 : decode cL_isBuilt 19 = .ok (.aload_n 0, 1) := by decide +kernel
theorem dL_isBuilt_20 : decode cL_isBuilt 20 = .ok (.iload_n 3, 1) := by decide +kernel
theorem dL_isBuilt_21 : decode cL_isBuilt 21 = .ok (.iload 4, 2) := by decide +kernel
theorem dL_isBuilt_23 : decode cL_isBuilt 23 = .ok (.iconst 0, 1) := by decide +kernel
theorem dL_isBuilt_24 : decode cL_isBuilt 24 = .ok (.invokevirtual 62, 3) := by decide +kernel
theorem dL_isBuilt_27 : decode cL_isBuilt 27 = .ok (.istore 5, 2) := by decide +kernel
theorem dL_isBuilt_29 : decode cL_isBuilt 29 = .ok (.iload 5, 2) := by decide +kernel
theorem dL_isBuilt_31 : decode cL_isBuilt 31 = .ok (.ifCond .ge 6, 3) := by decide +kernel
theorem dL_isBuilt_34 : decode cL_isBuilt 34 = .ok (.goto 132, 3) := by decide +kernel
theorem dL_isBuilt_37 : decode cL_isBuilt 37 = .ok (.iload 5, 2) := by decide +kernel
theorem dL_isBuilt_39 : decode cL_isBuilt 39 = .ok (.ifCond .le 39, 3) := by decide +kernel
theorem dL_isBuilt_42 : decode cL_isBuilt 42 = .ok (.aload_n 0, 1) := by decide +kernel
theorem dL_isBuilt_43 : decode cL_isBuilt 43 = .ok (.iload_n 3, 1) := by decide +kernel
theorem dL_isBuilt_44 : decode cL_isBuilt 44 = .ok (.iload 4, 2) := by decide +kernel
theorem dL_isBuilt_46 : decode cL_isBuilt 46 = .ok (.invokevirtual 51, 3) := by decide +kernel
theorem dL_isBuilt_49 : decode cL_isBuilt 49 = .ok (.ldc 65, 2) := by decide +kernel
theorem dL_isBuilt_51 : decode cL_isBuilt 51 = .ok (.if_icmp .ne 25, 3) := by decide +kernel
theorem dL_isBuilt_54 : decode cL_isBuilt 54 = .ok (.aload_n 0, 1) := by decide +kernel
theorem dL_isBuilt_55 : decode cL_isBuilt 55 = .ok (.iload_n 3, 1) := by decide +kernel
theorem dL_isBuilt_56 : decode cL_isBuilt 56 = .ok (.iload 4, 2) := by decide +kernel
theorem dL_isBuilt_58 : decode cL_isBuilt 58 = .ok (.iconst 2, 1) := by decide +kernel
theorem dL_isBuilt_59 : decode cL_isBuilt 59 = .ok (.invokevirtual 62, 3) := by decide +kernel
theorem dL_isBuilt_62 : decode cL_isBuilt 62 = .ok (.ifCond .ne 14, 3) := by decide +kernel
theorem dL_isBuilt_65 : decode cL_isBuilt 65 = .ok (.aload_n 0, 1) := by decide +kernel
theorem dL_isBuilt_66 : decode cL_isBuilt 66 = .ok (.iload_n 3, 1) := by decide +kernel
theorem dL_isBuilt_67 : decode cL_isBuilt 67 = .ok (.iload 4, 2) := by decide +kernel
theorem dL_isBuilt_69 : decode cL_isBuilt 69 = .ok (.iconst 3, 1) := by decide +kernel
theorem dL_isBuilt_70 : decode cL_isBuilt 70 = .ok (.invokevirtual 62, 3) := by decide +kernel
theorem dL_isBuilt_73 : decode cL_isBuilt 73 = .ok (.ifCond .eq 5, 3) := by decide +kernel
theorem dL_isBuilt_76 : decode cL_isBuilt 76 = .ok (.iconst 0, 1) := by decide +kernel
theorem dL_isBuilt_77 : decode cL_isBuilt 77 = .ok (.ireturn, 1) := by decide +kernel
theorem dL_isBuilt_78 : decode cL_isBuilt 78 = .ok (.aload_n 0, 1) := by decide +kernel
theorem dL_isBuilt_79 : decode cL_isBuilt 79 = .ok (.iload_n 3, 1) := by decide +kernel
theorem dL_isBuilt_80 : decode cL_isBuilt 80 = .ok (.iload 4, 2) := by decide +kernel
theorem dL_isBuilt_82 : decode cL_isBuilt 82 = .ok (.iconst 1, 1) := by decide +kernel
theorem dL_isBuilt_83 : decode cL_isBuilt 83 = .ok (.invokevirtual 62, 3) := by decide +kernel
theorem dL_isBuilt_86 : decode cL_isBuilt 86 = .ok (.iconst 1, 1) := by decide +kernel
theorem dL_isBuilt_87 : decode cL_isBuilt 87 = .ok (.if_icmp .ne 34, 3) := by decide +kernel
theorem dL_isBuilt_90 : decode cL_isBuilt 90 = .ok (.aload_n 0, 1) := by decide +kernel
theorem dL_isBuilt_91 : decode cL_isBuilt 91 = .ok (.iload_n 3, 1) := by decide +kernel
theorem dL_isBuilt_92 : decode cL_isBuilt 92 = .ok (.iload 4, 2) := by decide +kernel
theorem dL_isBuilt_94 : decode cL_isBuilt 94 = .ok (.iconst 3, 1) := by decide +kernel
theorem dL_isBuilt_95 : decode cL_isBuilt 95 = .ok (.invokevirtual 62, 3) := by decide +kernel
theorem dL_isBuilt_98 : decode cL_isBuilt 98 = .ok (.ifCond .ne 21, 3) := by decide +kernel
theorem dL_isBuilt_101 : decode cL_isBuilt 101 = .ok (.aload_n 0, 1) := by decide +kernel
theorem dL_isBuilt_102 : decode cL_isBuilt 102 = .ok (.iload_n 3, 1) := by decide +kernel
theorem dL_isBuilt_103 : decode cL_isBuilt 103 = .ok (.iload 4, 2) := by decide +kernel
theorem dL_isBuilt_105 : decode cL_isBuilt 105 = .ok (.invokevirtual 51, 3) := by decide +kernel
theorem dL_isBuilt_108 : decode cL_isBuilt 108 = .ok (.aload_n 0, 1) := by decide +kernel
theorem dL_isBuilt_109 : decode cL_isBuilt 109 = .ok (.iload_n 3, 1) := by decide +kernel
theorem dL_isBuilt_110 : decode cL_isBuilt 110 = .ok (.iload 4, 2) := by decide +kernel
theorem dL_isBuilt_112 : decode cL_isBuilt 112 = .ok (.iconst 2, 1) := by decide +kernel
theorem dL_isBuilt_113 : decode cL_isBuilt 113 = .ok (.invokevirtual 62, 3) := by decide +kernel
theorem dL_isBuilt_116 : decode cL_isBuilt 116 = .ok (.if_icmp .eq 5, 3) := by decide +kernel
theorem dL_isBuilt_119 : decode cL_isBuilt 119 = .ok (.iconst 0, 1) := by decide +kernel
theorem dL_isBuilt_120 : decode cL_isBuilt 120 = .ok (.ireturn, 1) := by decide +kernel
theorem dL_isBuilt_121 : decode cL_isBuilt 121 = .ok (.iload 5, 2) := by decide +kernel
theorem dL_isBuilt_123 : decode cL_isBuilt 123 = .ok (.ifCond .ne 6, 3) := by decide +kernel
theorem dL_isBuilt_126 : decode cL_isBuilt 126 = .ok (.goto 40, 3) := by decide +kernel
theorem dL_isBuilt_129 : decode cL_isBuilt 129 = .ok (.aload_n 0, 1) := by decide +kernel
theorem dL_isBuilt_130 : decode cL_isBuilt 130 = .ok (.iload_n 2, 1) := by decide +kernel
theorem dL_isBuilt_131 : decode cL_isBuilt 131 = .ok (.iconst 1, 1) := by decide +kernel
theorem dL_isBuilt_132 : decode cL_isBuilt 132 = .ok (.invokevirtual 66, 3) := by decide +kernel
theorem dL_isBuilt_135 : decode cL_isBuilt 135 = .ok (.iload_n 3, 1) := by decide +kernel
theorem dL_isBuilt_136 : decode cL_isBuilt 136 = .ok (.if_icmp .ne 25, 3) := by decide +kernel
theorem dL_isBuilt_139 : decode cL_isBuilt 139 = .ok (.aload_n 0, 1) := by decide +kernel
theorem dL_isBuilt_140 : decode cL_isBuilt 140 = .ok (.iload_n 2, 1) := by decide +kernel
theorem dL_isBuilt_141 : decode cL_isBuilt 141 = .ok (.iconst 2, 1) := by decide +kernel
theorem dL_isBuilt_142 : decode cL_isBuilt 142 = .ok (.invokevirtual 66, 3) := by decide +kernel
theorem dL_isBuilt_145 : decode cL_isBuilt 145 = .ok (.iload 4, 2) := by decide +kernel
theorem dL_isBuilt_147 : decode cL_isBuilt 147 = .ok (.if_icmp .ne 14, 3) := by decide +kernel
theorem dL_isBuilt_150 : decode cL_isBuilt 150 = .ok (.aload_n 0, 1) := by decide +kernel
theorem dL_isBuilt_151 : decode cL_isBuilt 151 = .ok (.iload_n 2, 1) := by decide +kernel
theorem dL_isBuilt_152 : decode cL_isBuilt 152 = .ok (.iconst 0, 1) := by decide +kernel
theorem dL_isBuilt_153 : decode cL_isBuilt 153 = .ok (.invokevirtual 66, 3) := by decide +kernel
theorem dL_isBuilt_156 : decode cL_isBuilt 156 = .ok (.iload 5, 2) := by decide +kernel
theorem dL_isBuilt_158 : decode cL_isBuilt 158 = .ok (.if_icmp .eq 5, 3) := by decide +kernel
theorem dL_isBuilt_161 : decode cL_isBuilt 161 = .ok (.iconst 0, 1) := by decide +kernel
theorem dL_isBuilt_162 : decode cL_isBuilt 162 = .ok (.ireturn, 1) := by decide +kernel
theorem dL_isBuilt_163 : decode cL_isBuilt 163 = .ok (.iinc 2 1, 3) := by decide +kernel
theorem dL_isBuilt_166 : decode cL_isBuilt 166 = .ok (.iinc 4 1, 3) := by decide +kernel
theorem dL_isBuilt_169 : decode cL_isBuilt 169 = .ok (.goto (-157), 3) := by decide +kernel
theorem dL_isBuilt_172 : decode cL_isBuilt 172 = .ok (.iinc 3 1, 3) := by decide +kernel
theorem dL_isBuilt_175 : decode cL_isBuilt 175 = .ok (.goto (-171), 3) := by decide +kernel
theorem dL_isBuilt_178 : decode cL_isBuilt 178 = .ok (.aload_n 0, 1) := by decide +kernel
theorem dL_isBuilt_179 : decode cL_isBuilt 179 = .ok (.iconst 5, 1) := by decide +kernel
theorem dL_isBuilt_180 : decode cL_isBuilt 180 = .ok (.invokevirtual 37, 3) := by decide +kernel
theorem dL_isBuilt_183 : decode cL_isBuilt 183 = .ok (.iload_n 2, 1) := by decide +kernel
theorem dL_isBuilt_184 : decode cL_isBuilt 184 = .ok (.if_icmp .ne 7, 3) := by decide +kernel
theorem dL_isBuilt_187 : decode cL_isBuilt 187 = .ok (.iconst 1, 1) := by decide +kernel
theorem dL_isBuilt_188 : decode cL_isBuilt 188 = .ok (.goto 4, 3) := by decide +kernel
theorem dL_isBuilt_191 : decode cL_isBuilt 191 = .ok (.iconst 0, 1) := by decide +kernel
theorem dL_isBuilt_192 : decode cL_isBuilt 192 = .ok (.ireturn, 1) := by decide +kernel
theorem dL_edit_0 : decode cL_edit 0 = .ok (.iload_n 2, 1) := by decide +kernel
theorem dL_edit_1 : decode cL_edit 1 = .ok (.iload_n 1, 1) := by decide +kernel
theorem dL_edit_2 : decode cL_edit 2 = .ok (.invokestatic 18, 3) := by decide +kernel
theorem dL_edit_5 : decode cL_edit 5 = .ok (.istore 4, 2) := by decide +kernel
theorem dL_edit_7 : decode cL_edit 7 = .ok (.iload_n 3, 1) := by decide +kernel
theorem dL_edit_8 : decode cL_edit 8 = .ok (.bipush 8, 2) := by decide +kernel
theorem dL_edit_10 : decode cL_edit 10 = .ok (.invokestatic 18, 3) := by decide +kernel
theorem dL_edit_13 : decode cL_edit 13 = .ok (.istore 5, 2) := by decide +kernel
theorem dL_edit_15 : decode cL_edit 15 = .ok (.iload_n 3, 1) := by decide +kernel
theorem dL_edit_16 : decode cL_edit 16 = .ok (.bipush 6, 2) := by decide +kernel
theorem dL_edit_18 : decode cL_edit 18 = .ok (.ishr, 1) := by decide +kernel
theorem dL_edit_19 : decode cL_edit 19 = .ok (.bipush 8, 2) := by decide +kernel
theorem dL_edit_21 : decode cL_edit 21 = .ok (.invokestatic 18, 3) := by decide +kernel
theorem dL_edit_24 : decode cL_edit 24 = .ok (.istore 6, 2) := by decide +kernel
theorem dL_edit_26 : decode cL_edit 26 = .ok (.iload_n 2, 1) := by decide +kernel
theorem dL_edit_27 : decode cL_edit 27 = .ok (.iconst 3, 1) := by decide +kernel
theorem dL_edit_28 : decode cL_edit 28 = .ok (.ishr, 1) := by decide +kernel
theorem dL_edit_29 : decode cL_edit 29 = .ok (.bipush 7, 2) := by decide +kernel
theorem dL_edit_31 : decode cL_edit 31 = .ok (.invokestatic 18, 3) := by decide +kernel
theorem dL_edit_34 : decode cL_edit 34 = .ok (.tableswitch 190 0 3 #[30, 79, 105, 105], 30) := by decide +kernel
theorem dL_edit_64 : decode cL_edit 64 = .ok (.aload_n 0, 1) := by decide +kernel
theorem dL_edit_65 : decode cL_edit 65 = .ok (.iload 4, 2) := by decide +kernel
theorem dL_edit_67 : decode cL_edit 67 = .ok (.iconst 0, 1) := by decide +kernel
theorem dL_edit_68 : decode cL_edit 68 = .ok (.invokevirtual 69, 3) := by decide +kernel
theorem dL_edit_71 : decode cL_edit 71 = .ok (.istore 7, 2) := by decide +kernel
theorem dL_edit_73 : decode cL_edit 73 = .ok (.aload_n 0, 1) := by decide +kernel
theorem dL_edit_74 : decode cL_edit 74 = .ok (.iload 4, 2) := by decide +kernel
theorem dL_edit_76 : decode cL_edit 76 = .ok (.iload 5, 2) := by decide +kernel
theorem dL_edit_78 : decode cL_edit 78 = .ok (.invokevirtual 72, 3) := by decide +kernel
theorem dL_edit_81 : decode cL_edit 81 = .ok (.ifCond .eq 10, 3) := by decide +kernel
theorem dL_edit_84 : decode cL_edit 84 = .ok (.iload 7, 2) := by decide +kernel
theorem dL_edit_86 : decode cL_edit 86 = .ok (.iconst 1, 1) := by decide +kernel
theorem dL_edit_87 : decode cL_edit 87 = .ok (.isub, 1) := by decide +kernel
theorem dL_edit_88 : decode cL_edit 88 = .ok (.goto 5, 3) := by decide +kernel
theorem dL_edit_91 : decode cL_edit 91 = .ok (.iload 7, 2) := by decide +kernel
theorem dL_edit_93 : decode cL_edit 93 = .ok (.istore 8, 2) := by decide +kernel
theorem dL_edit_95 : decode cL_edit 95 = .ok (.aload_n 0, 1) := by decide +kernel
theorem dL_edit_96 : decode cL_edit 96 = .ok (.iload 4, 2) := by decide +kernel
theorem dL_edit_98 : decode cL_edit 98 = .ok (.iconst 0, 1) := by decide +kernel
theorem dL_edit_99 : decode cL_edit 99 = .ok (.invokevirtual 69, 3) := by decide +kernel
theorem dL_edit_102 : decode cL_edit 102 = .ok (.iload 8, 2) := by decide +kernel
theorem dL_edit_104 : decode cL_edit 104 = .ok (.if_icmp .ne 7, 3) := by decide +kernel
theorem dL_edit_107 : decode cL_edit 107 = .ok (.iconst 1, 1) := by decide +kernel
theorem dL_edit_108 : decode cL_edit 108 = .ok (.goto 4, 3) := by decide +kernel
theorem dL_edit_111 : decode cL_edit 111 = .ok (.iconst 0, 1) := by decide +kernel
theorem dL_edit_112 : decode cL_edit 112 = .ok (.ireturn, 1) := by decide +kernel
theorem dL_edit_113 : decode cL_edit 113 = .ok (.aload_n 0, 1) := by decide +kernel
theorem dL_edit_114 : decode cL_edit 114 = .ok (.iload 4, 2) := by decide +kernel
theorem dL_edit_116 : decode cL_edit 116 = .ok (.iconst 1, 1) := by decide +kernel
theorem dL_edit_117 : decode cL_edit 117 = .ok (.invokevirtual 69, 3) := by decide +kernel
theorem dL_edit_120 : decode cL_edit 120 = .ok (.ifCond .eq 13, 3) := by decide +kernel
theorem dL_edit_123 : decode cL_edit 123 = .ok (.aload_n 0, 1) := by decide +kernel
theorem dL_edit_124 : decode cL_edit 124 = .ok (.iload 4, 2) := by decide +kernel
theorem dL_edit_126 : decode cL_edit 126 = .ok (.iconst 0, 1) := by decide +kernel
theorem dL_edit_127 : decode cL_edit 127 = .ok (.invokevirtual 76, 3) := by decide +kernel
theorem dL_edit_130 : decode cL_edit 130 = .ok (.ifCond .lt 7, 3) := by decide +kernel
theorem dL_edit_133 : decode cL_edit 133 = .ok (.iconst 1, 1) := by decide +kernel
theorem dL_edit_134 : decode cL_edit 134 = .ok (.goto 4, 3) := by decide +kernel
theorem dL_edit_137 : decode cL_edit 137 = .ok (.iconst 0, 1) := by decide +kernel
theorem dL_edit_138 : decode cL_edit 138 = .ok (.ireturn, 1) := by decide +kernel
theorem dL_edit_139 : decode cL_edit 139 = .ok (.iload 6, 2) := by decide +kernel
theorem dL_edit_141 : decode cL_edit 141 = .ok (.iload 4, 2) := by decide +kernel
theorem dL_edit_143 : decode cL_edit 143 = .ok (.if_icmp .eq 75, 3) := by decide +kernel
theorem dL_edit_146 : decode cL_edit 146 = .ok (.aload_n 0, 1) := by decide +kernel
theorem dL_edit_147 : decode cL_edit 147 = .ok (.iload 4, 2) := by decide +kernel
theorem dL_edit_149 : decode cL_edit 149 = .ok (.iconst 1, 1) := by decide +kernel
theorem dL_edit_150 : decode cL_edit 150 = .ok (.invokevirtual 69, 3) := by decide +kernel
theorem dL_edit_153 : decode cL_edit 153 = .ok (.iconst 5, 1) := by decide +kernel
theorem dL_edit_154 : decode cL_edit 154 = .ok (.if_icmp .eq 64, 3) := by decide +kernel
theorem dL_edit_157 : decode cL_edit 157 = .ok (.aload_n 0, 1) := by decide +kernel
theorem dL_edit_158 : decode cL_edit 158 = .ok (.iload 4, 2) := by decide +kernel
theorem dL_edit_160 : decode cL_edit 160 = .ok (.iload 6, 2) := by decide +kernel
theorem dL_edit_162 : decode cL_edit 162 = .ok (.iload_n 3, 1) := by decide +kernel
theorem dL_edit_163 : decode cL_edit 163 = .ok (.iconst 3, 1) := by decide +kernel
theorem dL_edit_164 : decode cL_edit 164 = .ok (.invokestatic 18, 3) := by decide +kernel
theorem dL_edit_167 : decode cL_edit 167 = .ok (.ifCond .ne 7, 3) := by decide +kernel
theorem dL_edit_170 : decode cL_edit 170 = .ok (.iconst (-1), 1) := by decide +kernel
theorem dL_edit_171 : decode cL_edit 171 = .ok (.goto 12, 3) := by decide +kernel
theorem dL_edit_174 : decode cL_edit 174 = .ok (.iload_n 3, 1) := by decide +kernel
theorem dL_edit_175 : decode cL_edit 175 = .ok (.bipush 9, 2) := by decide +kernel
theorem dL_edit_177 : decode cL_edit 177 = .ok (.ishr, 1) := by decide +kernel
theorem dL_edit_178 : decode cL_edit 178 = .ok (.bipush 8, 2) := by decide +kernel
theorem dL_edit_180 : decode cL_edit 180 = .ok (.invokestatic 18, 3) := by decide +kernel
theorem dL_edit_183 : decode cL_edit 183 = .ok (.iload_n 3, 1) := by decide +kernel
theorem dL_edit_184 : decode cL_edit 184 = .ok (.iconst 3, 1) := by decide +kernel
theorem dL_edit_185 : decode cL_edit 185 = .ok (.invokestatic 18, 3) := by decide +kernel
theorem dL_edit_188 : decode cL_edit 188 = .ok (.ifCond .ne 7, 3) := by decide +kernel
theorem dL_edit_191 : decode cL_edit 191 = .ok (.iconst 0, 1) := by decide +kernel
theorem dL_edit_192 : decode cL_edit 192 = .ok (.goto 5, 3) := by decide +kernel
theorem dL_edit_195 : decode cL_edit 195 = .ok (.iload 5, 2) := by decide +kernel
theorem dL_edit_197 : decode cL_edit 197 = .ok (.iload_n 3, 1) := by decide +kernel
theorem dL_edit_198 : decode cL_edit 198 = .ok (.iconst 3, 1) := by decide +kernel
theorem dL_edit_199 : decode cL_edit 199 = .ok (.ishr, 1) := by decide +kernel
theorem dL_edit_200 : decode cL_edit 200 = .ok (.iconst 2, 1) := by decide +kernel
theorem dL_edit_201 : decode cL_edit 201 = .ok (.invokestatic 18, 3) := by decide +kernel
theorem dL_edit_204 : decode cL_edit 204 = .ok (.ifCond .ne 7, 3) := by decide +kernel
theorem dL_edit_207 : decode cL_edit 207 = .ok (.iconst 1, 1) := by decide +kernel
theorem dL_edit_208 : decode cL_edit 208 = .ok (.goto 4, 3) := by decide +kernel
theorem dL_edit_211 : decode cL_edit 211 = .ok (.iconst 0, 1) := by decide +kernel
theorem dL_edit_212 : decode cL_edit 212 = .ok (.invokevirtual 79, 3) := by decide +kernel
theorem dL_edit_215 : decode cL_edit 215 = .ok (.ifCond .lt 7, 3) := by decide +kernel
theorem dL_edit_218 : decode cL_edit 218 = .ok (.iconst 1, 1) := by decide +kernel
theorem dL_edit_219 : decode cL_edit 219 = .ok (.goto 4, 3) := by decide +kernel
theorem dL_edit_222 : decode cL_edit 222 = .ok (.iconst 0, 1) := by decide +kernel
theorem dL_edit_223 : decode cL_edit 223 = .ok (.ireturn, 1) := by decide +kernel
theorem dL_edit_224 : decode cL_edit 224 = .ok (.aload_n 0, 1) := by decide +kernel
theorem dL_edit_225 : decode cL_edit 225 = .ok (.iload 4, 2) := by decide +kernel
theorem dL_edit_227 : decode cL_edit 227 = .ok (.iconst 0, 1) := by decide +kernel
theorem dL_edit_228 : decode cL_edit 228 = .ok (.invokevirtual 69, 3) := by decide +kernel
theorem dL_edit_231 : decode cL_edit 231 = .ok (.bipush 6, 2) := by decide +kernel
end
section
theorem dL_edit_233 : decode cL_edit 233 = .ok (.if_icmp .ne 19, 3) := by decide +kernel
theorem dL_edit_236 : decode cL_edit 236 = .ok (.aload_n 0, 1) := by decide +kernel
theorem dL_edit_237 : decode cL_edit 237 = .ok (.iload 4, 2) := by decide +kernel
theorem dL_edit_239 : decode cL_edit 239 = .ok (.iload_n 3, 1) := by decide +kernel
theorem dL_edit_240 : decode cL_edit 240 = .ok (.bipush 11, 2) := by decide +kernel
theorem dL_edit_242 : decode cL_edit 242 = .ok (.ishr, 1) := by decide +kernel
theorem dL_edit_243 : decode cL_edit 243 = .ok (.bipush 8, 2) := by decide +kernel
theorem dL_edit_245 : decode cL_edit 245 = .ok (.invokestatic 18, 3) := by decide +kernel
theorem dL_edit_248 : decode cL_edit 248 = .ok (.invokevirtual 72, 3) := by decide +kernel
theorem dL_edit_251 : decode cL_edit 251 = .ok (.pop, 1) := by decide +kernel
theorem dL_edit_252 : decode cL_edit 252 = .ok (.aload_n 0, 1) := by decide +kernel
theorem dL_edit_253 : decode cL_edit 253 = .ok (.iload 4, 2) := by decide +kernel
theorem dL_edit_255 : decode cL_edit 255 = .ok (.iconst 0, 1) := by decide +kernel
theorem dL_edit_256 : decode cL_edit 256 = .ok (.invokevirtual 69, 3) := by decide +kernel
theorem dL_edit_259 : decode cL_edit 259 = .ok (.bipush 6, 2) := by decide +kernel
theorem dL_edit_261 : decode cL_edit 261 = .ok (.if_icmp .eq 108, 3) := by decide +kernel
theorem dL_edit_264 : decode cL_edit 264 = .ok (.aload_n 0, 1) := by decide +kernel
theorem dL_edit_265 : decode cL_edit 265 = .ok (.iload 4, 2) := by decide +kernel
theorem dL_edit_267 : decode cL_edit 267 = .ok (.iload 5, 2) := by decide +kernel
theorem dL_edit_269 : decode cL_edit 269 = .ok (.iload_n 3, 1) := by decide +kernel
theorem dL_edit_270 : decode cL_edit 270 = .ok (.iconst 4, 1) := by decide +kernel
theorem dL_edit_271 : decode cL_edit 271 = .ok (.ishr, 1) := by decide +kernel
theorem dL_edit_272 : decode cL_edit 272 = .ok (.iconst 2, 1) := by decide +kernel
theorem dL_edit_273 : decode cL_edit 273 = .ok (.invokestatic 18, 3) := by decide +kernel
theorem dL_edit_276 : decode cL_edit 276 = .ok (.iload_n 3, 1) := by decide +kernel
theorem dL_edit_277 : decode cL_edit 277 = .ok (.iconst 5, 1) := by decide +kernel
theorem dL_edit_278 : decode cL_edit 278 = .ok (.ishr, 1) := by decide +kernel
theorem dL_edit_279 : decode cL_edit 279 = .ok (.iconst 4, 1) := by decide +kernel
theorem dL_edit_280 : decode cL_edit 280 = .ok (.invokestatic 18, 3) := by decide +kernel
theorem dL_edit_283 : decode cL_edit 283 = .ok (.ifCond .le 7, 3) := by decide +kernel
theorem dL_edit_286 : decode cL_edit 286 = .ok (.iconst 1, 1) := by decide +kernel
theorem dL_edit_287 : decode cL_edit 287 = .ok (.goto 4, 3) := by decide +kernel
theorem dL_edit_290 : decode cL_edit 290 = .ok (.iconst 0, 1) := by decide +kernel
theorem dL_edit_291 : decode cL_edit 291 = .ok (.iload_n 2, 1) := by decide +kernel
theorem dL_edit_292 : decode cL_edit 292 = .ok (.bipush 7, 2) := by decide +kernel
theorem dL_edit_294 : decode cL_edit 294 = .ok (.ishr, 1) := by decide +kernel
theorem dL_edit_295 : decode cL_edit 295 = .ok (.bipush 31, 2) := by decide +kernel
theorem dL_edit_297 : decode cL_edit 297 = .ok (.invokestatic 18, 3) := by decide +kernel
theorem dL_edit_300 : decode cL_edit 300 = .ok (.bipush 15, 2) := by decide +kernel
theorem dL_edit_302 : decode cL_edit 302 = .ok (.isub, 1) := by decide +kernel
theorem dL_edit_303 : decode cL_edit 303 = .ok (.iload_n 3, 1) := by decide +kernel
theorem dL_edit_304 : decode cL_edit 304 = .ok (.bipush 7, 2) := by decide +kernel
theorem dL_edit_306 : decode cL_edit 306 = .ok (.ishr, 1) := by decide +kernel
theorem dL_edit_307 : decode cL_edit 307 = .ok (.bipush 10, 2) := by decide +kernel
theorem dL_edit_309 : decode cL_edit 309 = .ok (.invokestatic 18, 3) := by decide +kernel
theorem dL_edit_312 : decode cL_edit 312 = .ok (.iconst 2, 1) := by decide +kernel
theorem dL_edit_313 : decode cL_edit 313 = .ok (.isub, 1) := by decide +kernel
theorem dL_edit_314 : decode cL_edit 314 = .ok (.ifCond .ge 7, 3) := by decide +kernel
theorem dL_edit_317 : decode cL_edit 317 = .ok (.iconst (-1), 1) := by decide +kernel
theorem dL_edit_318 : decode cL_edit 318 = .ok (.goto 14, 3) := by decide +kernel
theorem dL_edit_321 : decode cL_edit 321 = .ok (.iload_n 3, 1) := by decide +kernel
theorem dL_edit_322 : decode cL_edit 322 = .ok (.bipush 7, 2) := by decide +kernel
theorem dL_edit_324 : decode cL_edit 324 = .ok (.ishr, 1) := by decide +kernel
theorem dL_edit_325 : decode cL_edit 325 = .ok (.bipush 10, 2) := by decide +kernel
theorem dL_edit_327 : decode cL_edit 327 = .ok (.invokestatic 18, 3) := by decide +kernel
theorem dL_edit_330 : decode cL_edit 330 = .ok (.iconst 2, 1) := by decide +kernel
theorem dL_edit_331 : decode cL_edit 331 = .ok (.isub, 1) := by decide +kernel
theorem dL_edit_332 : decode cL_edit 332 = .ok (.iload_n 3, 1) := by decide +kernel
theorem dL_edit_333 : decode cL_edit 333 = .ok (.bipush 10, 2) := by decide +kernel
theorem dL_edit_335 : decode cL_edit 335 = .ok (.ishr, 1) := by decide +kernel
theorem dL_edit_336 : decode cL_edit 336 = .ok (.bipush 14, 2) := by decide +kernel
theorem dL_edit_338 : decode cL_edit 338 = .ok (.invokestatic 18, 3) := by decide +kernel
theorem dL_edit_341 : decode cL_edit 341 = .ok (.bipush 6, 2) := by decide +kernel
theorem dL_edit_343 : decode cL_edit 343 = .ok (.isub, 1) := by decide +kernel
theorem dL_edit_344 : decode cL_edit 344 = .ok (.ifCond .ge 7, 3) := by decide +kernel
theorem dL_edit_347 : decode cL_edit 347 = .ok (.iconst (-1), 1) := by decide +kernel
theorem dL_edit_348 : decode cL_edit 348 = .ok (.goto 15, 3) := by decide +kernel
theorem dL_edit_351 : decode cL_edit 351 = .ok (.iload_n 3, 1) := by decide +kernel
theorem dL_edit_352 : decode cL_edit 352 = .ok (.bipush 10, 2) := by decide +kernel
theorem dL_edit_354 : decode cL_edit 354 = .ok (.ishr, 1) := by decide +kernel
theorem dL_edit_355 : decode cL_edit 355 = .ok (.bipush 14, 2) := by decide +kernel
theorem dL_edit_357 : decode cL_edit 357 = .ok (.invokestatic 18, 3) := by decide +kernel
theorem dL_edit_360 : decode cL_edit 360 = .ok (.bipush 6, 2) := by decide +kernel
theorem dL_edit_362 : decode cL_edit 362 = .ok (.isub, 1) := by decide +kernel
theorem dL_edit_363 : decode cL_edit 363 = .ok (.invokevirtual 83, 3) := by decide +kernel
theorem dL_edit_366 : decode cL_edit 366 = .ok (.ifCond .le 7, 3) := by decide +kernel
theorem dL_edit_369 : decode cL_edit 369 = .ok (.iconst 1, 1) := by decide +kernel
theorem dL_edit_370 : decode cL_edit 370 = .ok (.goto 4, 3) := by decide +kernel
theorem dL_edit_373 : decode cL_edit 373 = .ok (.iconst 0, 1) := by decide +kernel
theorem dL_edit_374 : decode cL_edit 374 = .ok (.ireturn, 1) := by decide +kernel
end
section
/-! WALKS, laid by wip/p23/gen.py: J7_fill_53178, X8_importAt, X2_isAgain, X2_isOfAll, X2_from, X2_under, X2_source, X4_settleImport, X4_settleImports, X8_isDeclared, X1_isPublic, X6_has, X4_joined, X4_broughtTo, X4_lookedUp, X4_settleOutside -/
def m_J7_fill_53178_5 (ca0 oa0 na0 : Nat) (x1 : Int32)  : Nat → Sg → Int32 → Int32 → Option Sg
  | 0, _, _, _ => none
  | n + 1, σ, x2, x3 => if x3 ≤ x2 then some σ else chk (inb x2 na0) (st (wI σ ca0 oa0 x2.toNatClampNeg x1) (fun σ102 => m_J7_fill_53178_5 ca0 oa0 na0 x1 n σ102 (x2 + 1) x3))
set_option maxHeartbeats 4000000 in
set_option maxRecDepth 100000 in
theorem b_J7_fill_53178_5 {p : Program} {l : Launch} {e : Env} {s : State} {m : MethodId} {args : Array Value} {below : List Frame} {meth : Method} {c : Code} {Γ : GG} (X : MB Γ p s m args meth c cJ7_fill_53178 4 RJ7 none) {σf : Sg} {rf : Unit} (ca0 oa0 na0 ka0 : Nat) (hka0 : ka0 < 440) (hda0 : desc ka0 = (0, ca0, oa0, na0)) (x1 : Int32) : ∀ (n : Nat), (∀ (σ : Sg) (x2 : Int32) (x3 : Int32), (m_J7_fill_53178_5 ca0 oa0 na0 x1 n) σ x2 x3 = some σf → ∀ (H : Heap) (locs : List Loc) (ls : Array Slot), HW (IA Γ) Γ σ s.heap H locs → lv_has ls 4 [(0, .ref (adr Γ ka0)), (1, .int x1), (2, .int x2), (3, .int x3)] → W p l e ({ frames := 0, cells := 0, slots := 0, locals := 0 } : Room) s m args below meth c H locs 0 0 (QV Γ σf rf below args s) (F0 m 5 ls [])) := by
  have hx := X.1.1
  have hb := X.1.2.1
  intro n
  induction n with
  | zero => intro σ x2 x3 h; rw [m_J7_fill_53178_5] at h; cases h
  | succ n ih =>
    intro σ x2 x3 h H locs ls hH hl
    rw [m_J7_fill_53178_5] at h
    refine lv_iload_n hx hb dJ7_fill_53178_5 rfl (lv_at hl 2 rfl) ?_
    refine lv_iload_n hx hb dJ7_fill_53178_6 rfl (lv_at hl 3 rfl) ?_
    refine lv_icmp_ge (tgt := 20) hx hb dJ7_fill_53178_7 (by decide) (fun hc => ?_) (fun hc => ?_)
    · replace h := if_t h hc
      cases h
      exact e_void (v := rf) X hH dJ7_fill_53178_20
    · replace h := if_f h hc
      refine lv_aload_n hx hb dJ7_fill_53178_10 rfl (lv_at hl 0 rfl) ?_
      refine lv_iload_n hx hb dJ7_fill_53178_11 rfl (lv_at hl 2 rfl) ?_
      refine lv_iload_n hx hb dJ7_fill_53178_12 rfl (lv_at hl 1 rfl) ?_
      obtain ⟨hg101, h⟩ := chk_some h
      obtain ⟨σ102, e103, h⟩ := st_some h
      refine r_ist X.1 hH hka0 hda0 hg101 dJ7_fill_53178_13 (fun H locs hH => ?_)
      replace hH : HW (IA Γ) Γ σ102 s.heap H locs := by rw [e103]; exact hH
      refine lv_iinc (v := x2 + 1) (lv' := [(2, .int (x2 + 1)), (0, .ref (adr Γ ka0)), (1, .int x1), (3, .int x3)]) hx hb dJ7_fill_53178_14 hl (k := 2) rfl rfl (by decide) rfl (fun ls hl => ?_)
      refine lv_goto (tgt := 5) hx hb dJ7_fill_53178_17 (by decide) ?_
      exact ih σ102 (x2 + 1) x3 h _ _ _ hH (lv_sub hl [1, 2, 0, 3] rfl)
/-- java/util/Arrays.fill([II)V -/
def m_J7_fill_53178 (σ : Sg) (ca0 oa0 na0 : Nat) (x1 : Int32) : Option Sg := m_J7_fill_53178_5 ca0 oa0 na0 x1 1000 σ 0 ((Int32.ofNat na0))
set_option maxHeartbeats 4000000 in
set_option maxRecDepth 100000 in
theorem c_J7_fill_53178 (l : Launch) {Γ : GG} (hJ : IJ Γ) (σ : Sg) (ca0 oa0 na0 ka0 : Nat) (hka0 : ka0 < 440) (hda0 : desc ka0 = (0, ca0, oa0, na0)) (x1 : Int32) (σf : Sg) (rf : Unit) (h : m_J7_fill_53178 σ ca0 oa0 na0 x1 = some σf) : CV l yJ7_fill_53178 (wy yJ7_fill_53178 cJ7_fill_53178 4 none) { frames := 0, cells := 0, slots := 0, locals := 0 } Γ σ [.ref (adr Γ ka0), .int x1] σf rf := by
  refine met_of (by decide +kernel) hJ (Nat.le_of_ble_eq_true rfl) (fun p e s m below meth c ls X hH hl => ?_)
  have hl : lv_has ls 4 [(0, .ref (adr Γ ka0)), (1, .int x1)] := hl
  have hx := X.1.1
  have hb := X.1.2.1
  rw [m_J7_fill_53178] at h
  refine lv_iconst (v := 0) hx hb dJ7_fill_53178_0 (by decide) ?_
  refine lv_istore_n (lv' := [(2, .int 0), (0, .ref (adr Γ ka0)), (1, .int x1)]) hx hb dJ7_fill_53178_1 rfl hl (by decide) rfl (fun ls hl => ?_)
  refine lv_aload_n hx hb dJ7_fill_53178_2 rfl (lv_at hl 1 rfl) ?_
  refine r_len X.1 hH (v := (Int32.ofNat na0)) hka0 hda0 (by decide) rfl dJ7_fill_53178_3 ?_
  refine lv_istore_n (lv' := [(3, .int ((Int32.ofNat na0))), (2, .int 0), (0, .ref (adr Γ ka0)), (1, .int x1)]) hx hb dJ7_fill_53178_4 rfl hl (by decide) rfl (fun ls hl => ?_)
  exact b_J7_fill_53178_5 (rf := ()) X ca0 oa0 na0 ka0 hka0 hda0 x1  1000 σ 0 ((Int32.ofNat na0)) h _ _ _ hH (lv_sub hl [2, 3, 1, 0] rfl)
/-- CutoffMill$Texts.importAt(II)I -/
def m_X8_importAt (σ : Sg) (i0 : Nat) (x1 : Int32) (x2 : Int32) : Option Int32 := chk (inb ((x1 * (5 : Int32)) + x2) 40) (some (σ.1 27 i0 ((x1 * (5 : Int32)) + x2).toNatClampNeg))
set_option maxHeartbeats 4000000 in
set_option maxRecDepth 100000 in
theorem c_X8_importAt (l : Launch) {Γ : GG} (hJ : IJ Γ) (σ : Sg) (i0 : Nat) (hi0 : i0 < 32) (x1 : Int32) (x2 : Int32) (rf : Int32) (h : m_X8_importAt σ i0 x1 x2 = some rf) : CI l yX8_importAt (wy yX8_importAt cX8_importAt 3 (some .int)) { frames := 0, cells := 0, slots := 0, locals := 0 } Γ σ [.ref (adr Γ (kT i0)), .int x1, .int x2] σ rf := by
  refine met_of (by decide +kernel) hJ (Nat.le_of_ble_eq_true rfl) (fun p e s m below meth c ls X hH hl => ?_)
  have hl : lv_has ls 3 [(0, .ref (adr Γ (kT i0))), (1, .int x1), (2, .int x2)] := hl
  have hx := X.1.1
  have hb := X.1.2.1
  rw [m_X8_importAt] at h
  refine lv_aload_n hx hb dX8_importAt_0 rfl (lv_at hl 0 rfl) ?_
  refine r_get X.1 hH (kT_lt hi0) (dT0 _ hi0) rfl inlX8 1 (by decide) (v := .ref (adr Γ (kT i0 + 2))) rfl mw_34 dX8_importAt_1 ?_
  refine lv_iload_n hx hb dX8_importAt_4 rfl (lv_at hl 1 rfl) ?_
  refine lv_iconst (v := 5) hx hb dX8_importAt_5 (by decide) ?_
  refine lv_imul hx hb dX8_importAt_6 ?_
  refine lv_iload_n hx hb dX8_importAt_7 rfl (lv_at hl 2 rfl) ?_
  refine lv_iadd hx hb dX8_importAt_8 ?_
  obtain ⟨hg101, h⟩ := chk_some h
  refine r_ild X.1 hH (lT2 _ hi0) (dT2 _ hi0) hg101 dX8_importAt_9 ?_
  cases h
  exact e_int X hH rfl dX8_importAt_10
/-- CutoffMill$Import.isAgain(I)Z -/
def m_X2_isAgain (σ : Sg) (x0 : Int32) : Option Int32 := if ((x0 >>> ((12 : Int32) &&& 31)) &&& (1 : Int32)) = 1 then some 1 else some 0
set_option maxHeartbeats 4000000 in
set_option maxRecDepth 100000 in
theorem c_X2_isAgain (l : Launch) {Γ : GG} (hJ : IJ Γ) (σ : Sg) (x0 : Int32) (rf : Int32) (h : m_X2_isAgain σ x0 = some rf) : CI l yX2_isAgain (wy yX2_isAgain cX2_isAgain 1 (some .boolean)) { frames := 0, cells := 0, slots := 0, locals := 0 } Γ σ [.int x0] σ rf := by
  refine met_of (by decide +kernel) hJ (Nat.le_of_ble_eq_true rfl) (fun p e s m below meth c ls X hH hl => ?_)
  have hl : lv_has ls 1 [(0, .int x0)] := hl
  have hx := X.1.1
  have hb := X.1.2.1
  rw [m_X2_isAgain] at h
  refine lv_iload_n hx hb dX2_isAgain_0 rfl (lv_at hl 0 rfl) ?_
  refine lv_bipush (v := 12) hx hb dX2_isAgain_1 (by decide) ?_
  refine lv_ishr hx hb dX2_isAgain_3 ?_
  refine lv_iconst (v := 1) hx hb dX2_isAgain_4 (by decide) ?_
  refine lv_iand hx hb dX2_isAgain_5 ?_
  refine lv_iconst (v := 1) hx hb dX2_isAgain_6 (by decide) ?_
  refine lv_icmp_ne (tgt := 14) hx hb dX2_isAgain_7 (by decide) (fun hc => ?_) (fun hc => ?_)
  · replace h := if_f h hc
    refine lv_iconst (v := 0) hx hb dX2_isAgain_14 (by decide) ?_
    cases h
    exact e_int X hH rfl dX2_isAgain_15
  · replace h := if_t h hc
    refine lv_iconst (v := 1) hx hb dX2_isAgain_10 (by decide) ?_
    refine lv_goto (tgt := 15) hx hb dX2_isAgain_11 (by decide) ?_
    cases h
    exact e_int X hH rfl dX2_isAgain_15
/-- CutoffMill$Import.isOfAll(I)Z -/
def m_X2_isOfAll (σ : Sg) (x0 : Int32) : Option Int32 := if ((x0 >>> ((3 : Int32) &&& 31)) &&& (31 : Int32)) = 0 then some 1 else some 0
set_option maxHeartbeats 4000000 in
set_option maxRecDepth 100000 in
theorem c_X2_isOfAll (l : Launch) {Γ : GG} (hJ : IJ Γ) (σ : Sg) (x0 : Int32) (rf : Int32) (h : m_X2_isOfAll σ x0 = some rf) : CI l yX2_isOfAll (wy yX2_isOfAll cX2_isOfAll 1 (some .boolean)) { frames := 0, cells := 0, slots := 0, locals := 0 } Γ σ [.int x0] σ rf := by
  refine met_of (by decide +kernel) hJ (Nat.le_of_ble_eq_true rfl) (fun p e s m below meth c ls X hH hl => ?_)
  have hl : lv_has ls 1 [(0, .int x0)] := hl
  have hx := X.1.1
  have hb := X.1.2.1
  rw [m_X2_isOfAll] at h
  refine lv_iload_n hx hb dX2_isOfAll_0 rfl (lv_at hl 0 rfl) ?_
  refine lv_iconst (v := 3) hx hb dX2_isOfAll_1 (by decide) ?_
  refine lv_ishr hx hb dX2_isOfAll_2 ?_
  refine lv_bipush (v := 31) hx hb dX2_isOfAll_3 (by decide) ?_
  refine lv_iand hx hb dX2_isOfAll_5 ?_
  refine lv_if_ne (tgt := 13) hx hb dX2_isOfAll_6 (by decide) (fun hc => ?_) (fun hc => ?_)
  · replace h := if_f h hc
    refine lv_iconst (v := 0) hx hb dX2_isOfAll_13 (by decide) ?_
    cases h
    exact e_int X hH rfl dX2_isOfAll_14
  · replace h := if_t h hc
    refine lv_iconst (v := 1) hx hb dX2_isOfAll_9 (by decide) ?_
    refine lv_goto (tgt := 14) hx hb dX2_isOfAll_10 (by decide) ?_
    cases h
    exact e_int X hH rfl dX2_isOfAll_14
/-- CutoffMill$Import.from(I)I -/
def m_X2_from (σ : Sg) (x0 : Int32) : Option Int32 := some (x0 &&& (7 : Int32))
set_option maxHeartbeats 4000000 in
set_option maxRecDepth 100000 in
theorem c_X2_from (l : Launch) {Γ : GG} (hJ : IJ Γ) (σ : Sg) (x0 : Int32) (rf : Int32) (h : m_X2_from σ x0 = some rf) : CI l yX2_from (wy yX2_from cX2_from 1 (some .int)) { frames := 0, cells := 0, slots := 0, locals := 0 } Γ σ [.int x0] σ rf := by
  refine met_of (by decide +kernel) hJ (Nat.le_of_ble_eq_true rfl) (fun p e s m below meth c ls X hH hl => ?_)
  have hl : lv_has ls 1 [(0, .int x0)] := hl
  have hx := X.1.1
  have hb := X.1.2.1
  rw [m_X2_from] at h
  refine lv_iload_n hx hb dX2_from_0 rfl (lv_at hl 0 rfl) ?_
  refine lv_bipush (v := 7) hx hb dX2_from_1 (by decide) ?_
  refine lv_iand hx hb dX2_from_3 ?_
  cases h
  exact e_int X hH rfl dX2_from_4
/-- CutoffMill$Import.under(I)I -/
def m_X2_under (σ : Sg) (x0 : Int32) : Option Int32 := some ((x0 >>> ((8 : Int32) &&& 31)) &&& (15 : Int32))
set_option maxHeartbeats 4000000 in
set_option maxRecDepth 100000 in
theorem c_X2_under (l : Launch) {Γ : GG} (hJ : IJ Γ) (σ : Sg) (x0 : Int32) (rf : Int32) (h : m_X2_under σ x0 = some rf) : CI l yX2_under (wy yX2_under cX2_under 1 (some .int)) { frames := 0, cells := 0, slots := 0, locals := 0 } Γ σ [.int x0] σ rf := by
  refine met_of (by decide +kernel) hJ (Nat.le_of_ble_eq_true rfl) (fun p e s m below meth c ls X hH hl => ?_)
  have hl : lv_has ls 1 [(0, .int x0)] := hl
  have hx := X.1.1
  have hb := X.1.2.1
  rw [m_X2_under] at h
  refine lv_iload_n hx hb dX2_under_0 rfl (lv_at hl 0 rfl) ?_
  refine lv_bipush (v := 8) hx hb dX2_under_1 (by decide) ?_
  refine lv_ishr hx hb dX2_under_3 ?_
  refine lv_bipush (v := 15) hx hb dX2_under_4 (by decide) ?_
  refine lv_iand hx hb dX2_under_6 ?_
  cases h
  exact e_int X hH rfl dX2_under_7
/-- CutoffMill$Import.source(I)I -/
def m_X2_source (σ : Sg) (x0 : Int32) : Option Int32 := bnd (m_X2_from σ x0) (fun r102 => some (((r102 * (16 : Int32)) + ((x0 >>> ((3 : Int32) &&& 31)) &&& (31 : Int32))) - (1 : Int32)))
set_option maxHeartbeats 4000000 in
set_option maxRecDepth 100000 in
theorem c_X2_source (l : Launch) {Γ : GG} (hJ : IJ Γ) (σ : Sg) (x0 : Int32) (rf : Int32) (h : m_X2_source σ x0 = some rf) : CI l yX2_source (wy yX2_source cX2_source 1 (some .int)) { frames := 1, cells := 0, slots := 0, locals := 20 } Γ σ [.int x0] σ rf := by
  refine met_of (by decide +kernel) hJ (Nat.le_of_ble_eq_true rfl) (fun p e s m below meth c ls X hH hl => ?_)
  have hl : lv_has ls 1 [(0, .int x0)] := hl
  have hx := X.1.1
  have hb := X.1.2.1
  rw [m_X2_source] at h
  refine lv_iload_n hx hb dX2_source_0 rfl (lv_at hl 0 rfl) ?_
  obtain ⟨r102, hq101, h⟩ := bnd_some h
  refine r_callSI X.1 hl hH (As := [.int x0]) (rest := []) (c_X2_from l X.1.2.2.2.2.2.2.1 σ x0 _ hq101) (cw_S X.1 1 mw_173 mw_180 mw_172 mw_166 rfl rfl (by decide +kernel) ⟨Nat.le_of_ble_eq_true rfl, Nat.le_of_ble_eq_true rfl⟩) rfl rfl (Nat.le_of_ble_eq_true rfl) dX2_source_1 ⟨Nat.zero_le _, Nat.zero_le _⟩ (fun H locs hH => ?_)
  refine lv_bipush (v := 16) hx hb dX2_source_4 (by decide) ?_
  refine lv_imul hx hb dX2_source_6 ?_
  refine lv_iload_n hx hb dX2_source_7 rfl (lv_at hl 0 rfl) ?_
  refine lv_iconst (v := 3) hx hb dX2_source_8 (by decide) ?_
  refine lv_ishr hx hb dX2_source_9 ?_
  refine lv_bipush (v := 31) hx hb dX2_source_10 (by decide) ?_
  refine lv_iand hx hb dX2_source_12 ?_
  refine lv_iadd hx hb dX2_source_13 ?_
  refine lv_iconst (v := 1) hx hb dX2_source_14 (by decide) ?_
  refine lv_isub hx hb dX2_source_15 ?_
  cases h
  exact e_int X hH rfl dX2_source_16
/-- CutoffMill$Names.settleImport(II)V -/
def m_X4_settleImport (σ : Sg) (x1 : Int32) (x2 : Int32) : Option Sg := bnd (m_X2_isAgain σ x2) (fun r102 => bnd (m_X2_isOfAll σ x2) (fun r105 => if r105 = 0 then bnd (m_X2_under σ x2) (fun r108 => bnd (m_X2_source σ x2) (fun r111 => chk (inb ((x1 * (16 : Int32)) + r108) 128) (st (wI σ 9 0 ((x1 * (16 : Int32)) + r108).toNatClampNeg r111) (fun σ114 => if r102 = 0 then some σ114 else chk (inb ((x1 * (16 : Int32)) + r108) 128) (chk (inb ((x1 * (16 : Int32)) + r108) 128) (st (wI σ114 10 0 ((x1 * (16 : Int32)) + r108).toNatClampNeg (σ114.1 9 0 ((x1 * (16 : Int32)) + r108).toNatClampNeg)) (fun σ118 => some σ118))))))) else chk (inb x1 8) (bnd (m_X2_from σ x2) (fun r122 => chk (inb x1 8) (st (wI σ 11 0 x1.toNatClampNeg ((σ.1 11 0 x1.toNatClampNeg) ||| ((1 : Int32) <<< (r122 &&& 31)))) (fun σ125 => chk (inb x1 8) (if r102 = 0 then chk (inb x1 8) (st (wI σ125 12 0 x1.toNatClampNeg ((σ125.1 12 0 x1.toNatClampNeg) ||| (0 : Int32))) (fun σ129 => some σ129)) else bnd (m_X2_from σ125 x2) (fun r132 => chk (inb x1 8) (st (wI σ125 12 0 x1.toNatClampNeg ((σ125.1 12 0 x1.toNatClampNeg) ||| ((1 : Int32) <<< (r132 &&& 31)))) (fun σ135 => some σ135))))))))))
set_option maxHeartbeats 4000000 in
set_option maxRecDepth 100000 in
theorem c_X4_settleImport (l : Launch) {Γ : GG} (hJ : IJ Γ) (σ : Sg) (x1 : Int32) (x2 : Int32) (σf : Sg) (rf : Unit) (h : m_X4_settleImport σ x1 x2 = some σf) : CV l yX4_settleImport (wy yX4_settleImport cX4_settleImport 5 none) { frames := 2, cells := 0, slots := 0, locals := 40 } Γ σ [.ref (adr Γ 4), .int x1, .int x2] σf rf := by
  refine met_of (by decide +kernel) hJ (Nat.le_of_ble_eq_true rfl) (fun p e s m below meth c ls X hH hl => ?_)
  have hl : lv_has ls 5 [(0, .ref (adr Γ 4)), (1, .int x1), (2, .int x2)] := hl
  have hx := X.1.1
  have hb := X.1.2.1
  rw [m_X4_settleImport] at h
  refine lv_iload_n hx hb dX4_settleImport_0 rfl (lv_at hl 2 rfl) ?_
  obtain ⟨r102, hq101, h⟩ := bnd_some h
  refine r_callSI X.1 hl hH (As := [.int x2]) (rest := []) (c_X2_isAgain l X.1.2.2.2.2.2.2.1 σ x2 _ hq101) (cw_S X.1 1 mw_167 mw_164 mw_165 mw_166 rfl rfl (by decide +kernel) ⟨Nat.le_of_ble_eq_true rfl, Nat.le_of_ble_eq_true rfl⟩) rfl rfl (Nat.le_of_ble_eq_true rfl) dX4_settleImport_1 ⟨Nat.zero_le _, Nat.zero_le _⟩ (fun H locs hH => ?_)
  refine lv_istore_n (lv' := [(3, .int r102), (0, .ref (adr Γ 4)), (1, .int x1), (2, .int x2)]) hx hb dX4_settleImport_4 rfl hl (by decide) rfl (fun ls hl => ?_)
  refine lv_iload_n hx hb dX4_settleImport_5 rfl (lv_at hl 3 rfl) ?_
  obtain ⟨r105, hq104, h⟩ := bnd_some h
  refine r_callSI X.1 hl hH (As := [.int x2]) (rest := []) (c_X2_isOfAll l X.1.2.2.2.2.2.2.1 σ x2 _ hq104) (cw_S X.1 1 mw_170 mw_168 mw_169 mw_166 rfl rfl (by decide +kernel) ⟨Nat.le_of_ble_eq_true rfl, Nat.le_of_ble_eq_true rfl⟩) rfl rfl (Nat.le_of_ble_eq_true rfl) dX4_settleImport_6 ⟨Nat.zero_le _, Nat.zero_le _⟩ (fun H locs hH => ?_)
  refine lv_if_eq (tgt := 51) hx hb dX4_settleImport_9 (by decide) (fun hc => ?_) (fun hc => ?_)
  · replace h := if_t h hc
    refine lv_iload_n hx hb dX4_settleImport_51 rfl (lv_at hl 2 rfl) ?_
    refine lv_bipush (v := 16) hx hb dX4_settleImport_52 (by decide) ?_
    refine lv_imul hx hb dX4_settleImport_54 ?_
    refine lv_iload_n hx hb dX4_settleImport_55 rfl (lv_at hl 3 rfl) ?_
    obtain ⟨r108, hq107, h⟩ := bnd_some h
    refine r_callSI X.1 hl hH (As := [.int x2]) (rest := [.int (x1 * (16 : Int32))]) (c_X2_under l X.1.2.2.2.2.2.2.1 σ x2 _ hq107) (cw_S X.1 1 mw_176 mw_174 mw_175 mw_166 rfl rfl (by decide +kernel) ⟨Nat.le_of_ble_eq_true rfl, Nat.le_of_ble_eq_true rfl⟩) rfl rfl (Nat.le_of_ble_eq_true rfl) dX4_settleImport_56 ⟨Nat.zero_le _, Nat.zero_le _⟩ (fun H locs hH => ?_)
    refine lv_iadd hx hb dX4_settleImport_59 ?_
    refine lv_istore (lv' := [(4, .int ((x1 * (16 : Int32)) + r108)), (3, .int r102), (0, .ref (adr Γ 4)), (1, .int x1), (2, .int x2)]) hx hb dX4_settleImport_60 hl (by decide) rfl (fun ls hl => ?_)
    refine lv_aload_n hx hb dX4_settleImport_62 rfl (lv_at hl 2 rfl) ?_
    refine r_get X.1 hH (by decide) rfl rfl inlX4 4 (by decide) (v := .ref (adr Γ 8)) rfl mw_43 dX4_settleImport_63 ?_
    refine lv_iload hx hb dX4_settleImport_66 (lv_at hl 0 rfl) ?_
    refine lv_iload_n hx hb dX4_settleImport_68 rfl (lv_at hl 4 rfl) ?_
    obtain ⟨r111, hq110, h⟩ := bnd_some h
    refine r_callSI X.1 hl hH (As := [.int x2]) (rest := [.int ((x1 * (16 : Int32)) + r108), .ref (adr Γ 8)]) (c_X2_source l X.1.2.2.2.2.2.2.1 σ x2 _ hq110) (cw_S X.1 1 mw_179 mw_177 mw_178 mw_166 rfl rfl (by decide +kernel) ⟨Nat.le_of_ble_eq_true rfl, Nat.le_of_ble_eq_true rfl⟩) rfl rfl (Nat.le_of_ble_eq_true rfl) dX4_settleImport_69 ⟨Nat.zero_le _, Nat.zero_le _⟩ (fun H locs hH => ?_)
    obtain ⟨hg113, h⟩ := chk_some h
    obtain ⟨σ114, e115, h⟩ := st_some h
    refine r_ist X.1 hH (by decide) rfl hg113 dX4_settleImport_72 (fun H locs hH => ?_)
    replace hH : HW (IA Γ) Γ σ114 s.heap H locs := by rw [e115]; exact hH
    refine lv_iload_n hx hb dX4_settleImport_73 rfl (lv_at hl 1 rfl) ?_
    refine lv_if_eq (tgt := 91) hx hb dX4_settleImport_74 (by decide) (fun hc => ?_) (fun hc => ?_)
    · replace h := if_t h hc
      cases h
      exact e_void (v := rf) X hH dX4_settleImport_91
    · replace h := if_f h hc
      refine lv_aload_n hx hb dX4_settleImport_77 rfl (lv_at hl 2 rfl) ?_
      refine r_get X.1 hH (by decide) rfl rfl inlX4 5 (by decide) (v := .ref (adr Γ 9)) rfl mw_44 dX4_settleImport_78 ?_
      refine lv_iload hx hb dX4_settleImport_81 (lv_at hl 0 rfl) ?_
      refine lv_aload_n hx hb dX4_settleImport_83 rfl (lv_at hl 2 rfl) ?_
      refine r_get X.1 hH (by decide) rfl rfl inlX4 4 (by decide) (v := .ref (adr Γ 8)) rfl mw_43 dX4_settleImport_84 ?_
      refine lv_iload hx hb dX4_settleImport_87 (lv_at hl 0 rfl) ?_
      obtain ⟨hg116, h⟩ := chk_some h
      refine r_ild X.1 hH (by decide) rfl hg116 dX4_settleImport_89 ?_
      obtain ⟨hg117, h⟩ := chk_some h
      obtain ⟨σ118, e119, h⟩ := st_some h
      refine r_ist X.1 hH (by decide) rfl hg117 dX4_settleImport_90 (fun H locs hH => ?_)
      replace hH : HW (IA Γ) Γ σ118 s.heap H locs := by rw [e119]; exact hH
      cases h
      exact e_void (v := rf) X hH dX4_settleImport_91
  · replace h := if_f h hc
    refine lv_aload_n hx hb dX4_settleImport_12 rfl (lv_at hl 1 rfl) ?_
    refine r_get X.1 hH (by decide) rfl rfl inlX4 6 (by decide) (v := .ref (adr Γ 10)) rfl mw_45 dX4_settleImport_13 ?_
    refine lv_iload_n hx hb dX4_settleImport_16 rfl (lv_at hl 2 rfl) ?_
    refine lv_dup2_11 hx hb dX4_settleImport_17 rfl rfl ?_
    obtain ⟨hg120, h⟩ := chk_some h
    refine r_ild X.1 hH (by decide) rfl hg120 dX4_settleImport_18 ?_
    refine lv_iconst (v := 1) hx hb dX4_settleImport_19 (by decide) ?_
    refine lv_iload_n hx hb dX4_settleImport_20 rfl (lv_at hl 3 rfl) ?_
    obtain ⟨r122, hq121, h⟩ := bnd_some h
    refine r_callSI X.1 hl hH (As := [.int x2]) (rest := [.int 1, .int (σ.1 11 0 x1.toNatClampNeg), .int x1, .ref (adr Γ 10)]) (c_X2_from l X.1.2.2.2.2.2.2.1 σ x2 _ hq121) (cw_S X.1 1 mw_173 mw_171 mw_172 mw_166 rfl rfl (by decide +kernel) ⟨Nat.le_of_ble_eq_true rfl, Nat.le_of_ble_eq_true rfl⟩) rfl rfl (Nat.le_of_ble_eq_true rfl) dX4_settleImport_21 ⟨Nat.zero_le _, Nat.zero_le _⟩ (fun H locs hH => ?_)
    refine lv_ishl hx hb dX4_settleImport_24 ?_
    refine lv_ior hx hb dX4_settleImport_25 ?_
    obtain ⟨hg124, h⟩ := chk_some h
    obtain ⟨σ125, e126, h⟩ := st_some h
    refine r_ist X.1 hH (by decide) rfl hg124 dX4_settleImport_26 (fun H locs hH => ?_)
    replace hH : HW (IA Γ) Γ σ125 s.heap H locs := by rw [e126]; exact hH
    refine lv_aload_n hx hb dX4_settleImport_27 rfl (lv_at hl 1 rfl) ?_
    refine r_get X.1 hH (by decide) rfl rfl inlX4 7 (by decide) (v := .ref (adr Γ 11)) rfl mw_46 dX4_settleImport_28 ?_
    refine lv_iload_n hx hb dX4_settleImport_31 rfl (lv_at hl 2 rfl) ?_
    refine lv_dup2_11 hx hb dX4_settleImport_32 rfl rfl ?_
    obtain ⟨hg127, h⟩ := chk_some h
    refine r_ild X.1 hH (by decide) rfl hg127 dX4_settleImport_33 ?_
    refine lv_iload_n hx hb dX4_settleImport_34 rfl (lv_at hl 0 rfl) ?_
    refine lv_if_eq (tgt := 47) hx hb dX4_settleImport_35 (by decide) (fun hc => ?_) (fun hc => ?_)
    · replace h := if_t h hc
      refine lv_iconst (v := 0) hx hb dX4_settleImport_47 (by decide) ?_
      refine lv_ior hx hb dX4_settleImport_48 ?_
      obtain ⟨hg128, h⟩ := chk_some h
      obtain ⟨σ129, e130, h⟩ := st_some h
      refine r_ist X.1 hH (by decide) rfl hg128 dX4_settleImport_49 (fun H locs hH => ?_)
      replace hH : HW (IA Γ) Γ σ129 s.heap H locs := by rw [e130]; exact hH
      cases h
      exact e_void (v := rf) X hH dX4_settleImport_50
    · replace h := if_f h hc
      refine lv_iconst (v := 1) hx hb dX4_settleImport_38 (by decide) ?_
      refine lv_iload_n hx hb dX4_settleImport_39 rfl (lv_at hl 3 rfl) ?_
      obtain ⟨r132, hq131, h⟩ := bnd_some h
      refine r_callSI X.1 hl hH (As := [.int x2]) (rest := [.int 1, .int (σ125.1 12 0 x1.toNatClampNeg), .int x1, .ref (adr Γ 11)]) (c_X2_from l X.1.2.2.2.2.2.2.1 σ125 x2 _ hq131) (cw_S X.1 1 mw_173 mw_171 mw_172 mw_166 rfl rfl (by decide +kernel) ⟨Nat.le_of_ble_eq_true rfl, Nat.le_of_ble_eq_true rfl⟩) rfl rfl (Nat.le_of_ble_eq_true rfl) dX4_settleImport_40 ⟨Nat.zero_le _, Nat.zero_le _⟩ (fun H locs hH => ?_)
      refine lv_ishl hx hb dX4_settleImport_43 ?_
      refine lv_goto (tgt := 48) hx hb dX4_settleImport_44 (by decide) ?_
      refine lv_ior hx hb dX4_settleImport_48 ?_
      obtain ⟨hg134, h⟩ := chk_some h
      obtain ⟨σ135, e136, h⟩ := st_some h
      refine r_ist X.1 hH (by decide) rfl hg134 dX4_settleImport_49 (fun H locs hH => ?_)
      replace hH : HW (IA Γ) Γ σ135 s.heap H locs := by rw [e136]; exact hH
      cases h
      exact e_void (v := rf) X hH dX4_settleImport_50
def m_X4_settleImports_57  (k34 : Sg → Int32 → Option Sg) : Nat → Sg → Int32 → Int32 → Option Sg
  | 0, _, _, _ => none
  | n + 1, σ, x1, x2 => if x2 < 0 then k34 σ (x1 + 1) else bnd (m_X8_importAt σ 0 x1 x2) (fun r115 => bnd (m_X4_settleImport σ x1 r115) (fun σ119 => m_X4_settleImports_57  k34 n σ119 x1 (x2 + (-1))))
set_option maxHeartbeats 4000000 in
set_option maxRecDepth 100000 in
theorem b_X4_settleImports_57 {p : Program} {l : Launch} {e : Env} {s : State} {m : MethodId} {args : Array Value} {below : List Frame} {meth : Method} {c : Code} {Γ : GG} (X : MB Γ p s m args meth c cX4_settleImports 3 RX4 none) {σf : Sg} {rf : Unit}  (k34 : Sg → Int32 → Option Sg) (hk34 : (∀ (σ : Sg) (x1 : Int32), k34 σ x1 = some σf → ∀ (H : Heap) (locs : List Loc) (ls : Array Slot), HW (IA Γ) Γ σ s.heap H locs → lv_has ls 3 [(0, .ref (adr Γ 4)), (1, .int x1)] → W p l e ({ frames := 3, cells := 0, slots := 0, locals := 64 } : Room) s m args below meth c H locs 0 0 (QV Γ σf rf below args s) (F0 m 34 ls []))) : ∀ (n : Nat), (∀ (σ : Sg) (x1 : Int32) (x2 : Int32), (m_X4_settleImports_57  k34 n) σ x1 x2 = some σf → ∀ (H : Heap) (locs : List Loc) (ls : Array Slot), HW (IA Γ) Γ σ s.heap H locs → lv_has ls 3 [(0, .ref (adr Γ 4)), (1, .int x1), (2, .int x2)] → W p l e ({ frames := 3, cells := 0, slots := 0, locals := 64 } : Room) s m args below meth c H locs 0 0 (QV Γ σf rf below args s) (F0 m 57 ls [])) := by
  have hx := X.1.1
  have hb := X.1.2.1
  intro n
  induction n with
  | zero => intro σ x1 x2 h; rw [m_X4_settleImports_57] at h; cases h
  | succ n ih =>
    intro σ x1 x2 h H locs ls hH hl
    rw [m_X4_settleImports_57] at h
    refine lv_iload_n hx hb dX4_settleImports_57 rfl (lv_at hl 2 rfl) ?_
    refine lv_if_lt (tgt := 81) hx hb dX4_settleImports_58 (by decide) (fun hc => ?_) (fun hc => ?_)
    · replace h := if_t h hc
      refine lv_iinc (v := x1 + 1) (lv' := [(1, .int (x1 + 1)), (0, .ref (adr Γ 4)), (2, .int x2)]) hx hb dX4_settleImports_81 hl (k := 1) rfl rfl (by decide) rfl (fun ls hl => ?_)
      refine lv_goto (tgt := 34) hx hb dX4_settleImports_84 (by decide) ?_
      exact hk34 σ (x1 + 1) h _ _ _ hH (lv_sub hl [1, 0] rfl)
    · replace h := if_f h hc
      refine lv_aload_n hx hb dX4_settleImports_61 rfl (lv_at hl 0 rfl) ?_
      refine lv_iload_n hx hb dX4_settleImports_62 rfl (lv_at hl 1 rfl) ?_
      refine lv_aload_n hx hb dX4_settleImports_63 rfl (lv_at hl 0 rfl) ?_
      refine r_get X.1 hH (by decide) rfl rfl inlX4 0 (by decide) (v := .ref (adr Γ (kT 0))) rfl mw_47 dX4_settleImports_64 ?_
      refine lv_iload_n hx hb dX4_settleImports_67 rfl (lv_at hl 1 rfl) ?_
      refine lv_iload_n hx hb dX4_settleImports_68 rfl (lv_at hl 2 rfl) ?_
      obtain ⟨r115, hq114, h⟩ := bnd_some h
      refine r_callVI X.1 hl hH (As := [.int x1, .int x2]) (rest := [.int x1, .ref (adr Γ 4)]) (c_X8_importAt l X.1.2.2.2.2.2.2.1 σ 0 (by omega) x1 x2 _ hq114) (cw_V X.1 2 mw_159 mw_156 mw_157 mw_158 mw_12 rfl rfl (by decide +kernel) ⟨Nat.le_of_ble_eq_true rfl, Nat.le_of_ble_eq_true rfl⟩) (r_recv X.1 hH (kT_lt (by omega)) (dT0 _ (by omega)) rfl) rfl rfl (Nat.le_of_ble_eq_true rfl) dX4_settleImports_69 ⟨Nat.zero_le _, Nat.zero_le _⟩ (fun H locs hH => ?_)
      obtain ⟨σ119, hq117, h⟩ := bnd_some h
      refine r_callVV X.1 hl hH (r := ()) (As := [.int x1, .int r115]) (rest := []) (c_X4_settleImport l X.1.2.2.2.2.2.2.1 σ x1 r115 _ () hq117) (cw_V X.1 2 mw_163 mw_160 mw_161 mw_162 mw_16 rfl rfl (by decide +kernel) ⟨Nat.le_of_ble_eq_true rfl, Nat.le_of_ble_eq_true rfl⟩) (r_recv X.1 hH (by decide) rfl rfl) rfl rfl (Nat.le_of_ble_eq_true rfl) dX4_settleImports_72 ⟨Nat.zero_le _, Nat.zero_le _⟩ (fun H locs hH => ?_)
      refine lv_iinc (v := x2 + (-1)) (lv' := [(2, .int (x2 + (-1))), (0, .ref (adr Γ 4)), (1, .int x1)]) hx hb dX4_settleImports_75 hl (k := 2) rfl rfl (by decide) rfl (fun ls hl => ?_)
      refine lv_goto (tgt := 57) hx hb dX4_settleImports_78 (by decide) ?_
      exact ih σ119 x1 (x2 + (-1)) h _ _ _ hH (lv_sub hl [1, 2, 0] rfl)
def m_X4_settleImports_34   : Nat → Sg → Int32 → Option Sg
  | 0, _, _ => none
  | n + 1, σ, x1 => if (σ.1 29 0 0) ≤ x1 then some σ else chk (inb x1 8) (m_X4_settleImports_57  (m_X4_settleImports_34  n) 1000 σ x1 ((σ.1 28 0 x1.toNatClampNeg) - (1 : Int32)))
set_option maxHeartbeats 4000000 in
set_option maxRecDepth 100000 in
theorem b_X4_settleImports_34 {p : Program} {l : Launch} {e : Env} {s : State} {m : MethodId} {args : Array Value} {below : List Frame} {meth : Method} {c : Code} {Γ : GG} (X : MB Γ p s m args meth c cX4_settleImports 3 RX4 none) {σf : Sg} {rf : Unit}  : ∀ (n : Nat), (∀ (σ : Sg) (x1 : Int32), (m_X4_settleImports_34  n) σ x1 = some σf → ∀ (H : Heap) (locs : List Loc) (ls : Array Slot), HW (IA Γ) Γ σ s.heap H locs → lv_has ls 3 [(0, .ref (adr Γ 4)), (1, .int x1)] → W p l e ({ frames := 3, cells := 0, slots := 0, locals := 64 } : Room) s m args below meth c H locs 0 0 (QV Γ σf rf below args s) (F0 m 34 ls [])) := by
  have hx := X.1.1
  have hb := X.1.2.1
  intro n
  induction n with
  | zero => intro σ x1 h; rw [m_X4_settleImports_34] at h; cases h
  | succ n ih =>
    intro σ x1 h H locs ls hH hl
    rw [m_X4_settleImports_34] at h
    refine lv_iload_n hx hb dX4_settleImports_34 rfl (lv_at hl 1 rfl) ?_
    refine lv_aload_n hx hb dX4_settleImports_35 rfl (lv_at hl 0 rfl) ?_
    refine r_get X.1 hH (by decide) rfl rfl inlX4 0 (by decide) (v := .ref (adr Γ (kT 0))) rfl mw_47 dX4_settleImports_36 ?_
    refine r_get X.1 hH (kT_lt (by omega)) (dT0 _ (by omega)) rfl inlX8 3 (by decide) (v := .int (σ.1 29 0 0)) rfl mw_146 dX4_settleImports_39 ?_
    refine lv_icmp_ge (tgt := 87) hx hb dX4_settleImports_42 (by decide) (fun hc => ?_) (fun hc => ?_)
    · replace h := if_t h hc
      cases h
      exact e_void (v := rf) X hH dX4_settleImports_87
    · replace h := if_f h hc
      refine lv_aload_n hx hb dX4_settleImports_45 rfl (lv_at hl 0 rfl) ?_
      refine r_get X.1 hH (by decide) rfl rfl inlX4 0 (by decide) (v := .ref (adr Γ (kT 0))) rfl mw_47 dX4_settleImports_46 ?_
      refine r_get X.1 hH (kT_lt (by omega)) (dT0 _ (by omega)) rfl inlX8 2 (by decide) (v := .ref (adr Γ (kT 0 + 3))) rfl mw_151 dX4_settleImports_49 ?_
      refine lv_iload_n hx hb dX4_settleImports_52 rfl (lv_at hl 1 rfl) ?_
      obtain ⟨hg113, h⟩ := chk_some h
      refine r_ild X.1 hH (lT3 _ (by omega)) (dT3 _ (by omega)) hg113 dX4_settleImports_53 ?_
      refine lv_iconst (v := 1) hx hb dX4_settleImports_54 (by decide) ?_
      refine lv_isub hx hb dX4_settleImports_55 ?_
      refine lv_istore_n (lv' := [(2, .int ((σ.1 28 0 x1.toNatClampNeg) - (1 : Int32))), (0, .ref (adr Γ 4)), (1, .int x1)]) hx hb dX4_settleImports_56 rfl hl (by decide) rfl (fun ls hl => ?_)
      exact b_X4_settleImports_57 (rf := ()) X  (m_X4_settleImports_34  n) ih 1000 σ x1 ((σ.1 28 0 x1.toNatClampNeg) - (1 : Int32)) h _ _ _ hH (lv_sub hl [1, 2, 0] rfl)
/-- CutoffMill$Names.settleImports()V -/
def m_X4_settleImports (σ : Sg)  : Option Sg := bnd (m_J7_fill_53178 σ 9 0 128 ((-1))) (fun σ103 => bnd (m_J7_fill_53178 σ103 10 0 128 ((-1))) (fun σ106 => bnd (m_J7_fill_53178 σ106 11 0 8 0) (fun σ109 => bnd (m_J7_fill_53178 σ109 12 0 8 0) (fun σ112 => m_X4_settleImports_34  1000 σ112 0))))
set_option maxHeartbeats 4000000 in
set_option maxRecDepth 100000 in
theorem c_X4_settleImports (l : Launch) {Γ : GG} (hJ : IJ Γ) (σ : Sg)  (σf : Sg) (rf : Unit) (h : m_X4_settleImports σ  = some σf) : CV l yX4_settleImports (wy yX4_settleImports cX4_settleImports 3 none) { frames := 3, cells := 0, slots := 0, locals := 64 } Γ σ [.ref (adr Γ 4)] σf rf := by
  refine met_of (by decide +kernel) hJ (Nat.le_of_ble_eq_true rfl) (fun p e s m below meth c ls X hH hl => ?_)
  have hl : lv_has ls 3 [(0, .ref (adr Γ 4))] := hl
  have hx := X.1.1
  have hb := X.1.2.1
  rw [m_X4_settleImports] at h
  refine lv_aload_n hx hb dX4_settleImports_0 rfl (lv_at hl 0 rfl) ?_
  refine r_get X.1 hH (by decide) rfl rfl inlX4 4 (by decide) (v := .ref (adr Γ 8)) rfl mw_43 dX4_settleImports_1 ?_
  refine lv_iconst (v := (-1)) hx hb dX4_settleImports_4 (by decide) ?_
  obtain ⟨σ103, hq101, h⟩ := bnd_some h
  refine r_callSV X.1 hl hH (r := ()) (As := [.ref (adr Γ 8), .int ((-1))]) (rest := []) (c_J7_fill_53178 l X.1.2.2.2.2.2.2.1 σ 9 0 128 8 (by decide) rfl ((-1)) _ () hq101) (cw_S X.1 2 mw_155 mw_152 mw_153 mw_154 rfl rfl (by decide +kernel) ⟨Nat.le_of_ble_eq_true rfl, Nat.le_of_ble_eq_true rfl⟩) rfl rfl (Nat.le_of_ble_eq_true rfl) dX4_settleImports_5 ⟨Nat.zero_le _, Nat.zero_le _⟩ (fun H locs hH => ?_)
  refine lv_aload_n hx hb dX4_settleImports_8 rfl (lv_at hl 0 rfl) ?_
  refine r_get X.1 hH (by decide) rfl rfl inlX4 5 (by decide) (v := .ref (adr Γ 9)) rfl mw_44 dX4_settleImports_9 ?_
  refine lv_iconst (v := (-1)) hx hb dX4_settleImports_12 (by decide) ?_
  obtain ⟨σ106, hq104, h⟩ := bnd_some h
  refine r_callSV X.1 hl hH (r := ()) (As := [.ref (adr Γ 9), .int ((-1))]) (rest := []) (c_J7_fill_53178 l X.1.2.2.2.2.2.2.1 σ103 10 0 128 9 (by decide) rfl ((-1)) _ () hq104) (cw_S X.1 2 mw_155 mw_152 mw_153 mw_154 rfl rfl (by decide +kernel) ⟨Nat.le_of_ble_eq_true rfl, Nat.le_of_ble_eq_true rfl⟩) rfl rfl (Nat.le_of_ble_eq_true rfl) dX4_settleImports_13 ⟨Nat.zero_le _, Nat.zero_le _⟩ (fun H locs hH => ?_)
  refine lv_aload_n hx hb dX4_settleImports_16 rfl (lv_at hl 0 rfl) ?_
  refine r_get X.1 hH (by decide) rfl rfl inlX4 6 (by decide) (v := .ref (adr Γ 10)) rfl mw_45 dX4_settleImports_17 ?_
  refine lv_iconst (v := 0) hx hb dX4_settleImports_20 (by decide) ?_
  obtain ⟨σ109, hq107, h⟩ := bnd_some h
  refine r_callSV X.1 hl hH (r := ()) (As := [.ref (adr Γ 10), .int 0]) (rest := []) (c_J7_fill_53178 l X.1.2.2.2.2.2.2.1 σ106 11 0 8 10 (by decide) rfl 0 _ () hq107) (cw_S X.1 2 mw_155 mw_152 mw_153 mw_154 rfl rfl (by decide +kernel) ⟨Nat.le_of_ble_eq_true rfl, Nat.le_of_ble_eq_true rfl⟩) rfl rfl (Nat.le_of_ble_eq_true rfl) dX4_settleImports_21 ⟨Nat.zero_le _, Nat.zero_le _⟩ (fun H locs hH => ?_)
  refine lv_aload_n hx hb dX4_settleImports_24 rfl (lv_at hl 0 rfl) ?_
  refine r_get X.1 hH (by decide) rfl rfl inlX4 7 (by decide) (v := .ref (adr Γ 11)) rfl mw_46 dX4_settleImports_25 ?_
  refine lv_iconst (v := 0) hx hb dX4_settleImports_28 (by decide) ?_
  obtain ⟨σ112, hq110, h⟩ := bnd_some h
  refine r_callSV X.1 hl hH (r := ()) (As := [.ref (adr Γ 11), .int 0]) (rest := []) (c_J7_fill_53178 l X.1.2.2.2.2.2.2.1 σ109 12 0 8 11 (by decide) rfl 0 _ () hq110) (cw_S X.1 2 mw_155 mw_152 mw_153 mw_154 rfl rfl (by decide +kernel) ⟨Nat.le_of_ble_eq_true rfl, Nat.le_of_ble_eq_true rfl⟩) rfl rfl (Nat.le_of_ble_eq_true rfl) dX4_settleImports_29 ⟨Nat.zero_le _, Nat.zero_le _⟩ (fun H locs hH => ?_)
  refine lv_iconst (v := 0) hx hb dX4_settleImports_32 (by decide) ?_
  refine lv_istore_n (lv' := [(1, .int 0), (0, .ref (adr Γ 4))]) hx hb dX4_settleImports_33 rfl hl (by decide) rfl (fun ls hl => ?_)
  exact b_X4_settleImports_34 (rf := ()) X   1000 σ112 0 h _ _ _ hH (lv_sub hl [1, 0] rfl)
/-- CutoffMill$Texts.isDeclared(I)Z -/
def m_X8_isDeclared (σ : Sg) (i0 : Nat) (x1 : Int32) : Option Int32 := chk (inb x1 128) (if (σ.1 26 i0 x1.toNatClampNeg) = 0 then some 0 else some 1)
set_option maxHeartbeats 4000000 in
set_option maxRecDepth 100000 in
theorem c_X8_isDeclared (l : Launch) {Γ : GG} (hJ : IJ Γ) (σ : Sg) (i0 : Nat) (hi0 : i0 < 32) (x1 : Int32) (rf : Int32) (h : m_X8_isDeclared σ i0 x1 = some rf) : CI l yX8_isDeclared (wy yX8_isDeclared cX8_isDeclared 2 (some .boolean)) { frames := 0, cells := 0, slots := 0, locals := 0 } Γ σ [.ref (adr Γ (kT i0)), .int x1] σ rf := by
  refine met_of (by decide +kernel) hJ (Nat.le_of_ble_eq_true rfl) (fun p e s m below meth c ls X hH hl => ?_)
  have hl : lv_has ls 2 [(0, .ref (adr Γ (kT i0))), (1, .int x1)] := hl
  have hx := X.1.1
  have hb := X.1.2.1
  rw [m_X8_isDeclared] at h
  refine lv_aload_n hx hb dX8_isDeclared_0 rfl (lv_at hl 0 rfl) ?_
  refine r_get X.1 hH (kT_lt hi0) (dT0 _ hi0) rfl inlX8 0 (by decide) (v := .ref (adr Γ (kT i0 + 1))) rfl mw_33 dX8_isDeclared_1 ?_
  refine lv_iload_n hx hb dX8_isDeclared_4 rfl (lv_at hl 1 rfl) ?_
  obtain ⟨hg101, h⟩ := chk_some h
  refine r_ild X.1 hH (lT1 _ hi0) (dT1 _ hi0) hg101 dX8_isDeclared_5 ?_
  refine lv_if_eq (tgt := 13) hx hb dX8_isDeclared_6 (by decide) (fun hc => ?_) (fun hc => ?_)
  · replace h := if_t h hc
    refine lv_iconst (v := 0) hx hb dX8_isDeclared_13 (by decide) ?_
    cases h
    exact e_int X hH rfl dX8_isDeclared_14
  · replace h := if_f h hc
    refine lv_iconst (v := 1) hx hb dX8_isDeclared_9 (by decide) ?_
    refine lv_goto (tgt := 14) hx hb dX8_isDeclared_10 (by decide) ?_
    cases h
    exact e_int X hH rfl dX8_isDeclared_14
/-- CutoffMill$Declaration.isPublic(I)Z -/
def m_X1_isPublic (σ : Sg) (x0 : Int32) : Option Int32 := if ((x0 >>> ((2 : Int32) &&& 31)) &&& (1 : Int32)) = 1 then some 1 else some 0
set_option maxHeartbeats 4000000 in
set_option maxRecDepth 100000 in
theorem c_X1_isPublic (l : Launch) {Γ : GG} (hJ : IJ Γ) (σ : Sg) (x0 : Int32) (rf : Int32) (h : m_X1_isPublic σ x0 = some rf) : CI l yX1_isPublic (wy yX1_isPublic cX1_isPublic 1 (some .boolean)) { frames := 0, cells := 0, slots := 0, locals := 0 } Γ σ [.int x0] σ rf := by
  refine met_of (by decide +kernel) hJ (Nat.le_of_ble_eq_true rfl) (fun p e s m below meth c ls X hH hl => ?_)
  have hl : lv_has ls 1 [(0, .int x0)] := hl
  have hx := X.1.1
  have hb := X.1.2.1
  rw [m_X1_isPublic] at h
  refine lv_iload_n hx hb dX1_isPublic_0 rfl (lv_at hl 0 rfl) ?_
  refine lv_iconst (v := 2) hx hb dX1_isPublic_1 (by decide) ?_
  refine lv_ishr hx hb dX1_isPublic_2 ?_
  refine lv_iconst (v := 1) hx hb dX1_isPublic_3 (by decide) ?_
  refine lv_iand hx hb dX1_isPublic_4 ?_
  refine lv_iconst (v := 1) hx hb dX1_isPublic_5 (by decide) ?_
  refine lv_icmp_ne (tgt := 13) hx hb dX1_isPublic_6 (by decide) (fun hc => ?_) (fun hc => ?_)
  · replace h := if_f h hc
    refine lv_iconst (v := 0) hx hb dX1_isPublic_13 (by decide) ?_
    cases h
    exact e_int X hH rfl dX1_isPublic_14
  · replace h := if_t h hc
    refine lv_iconst (v := 1) hx hb dX1_isPublic_9 (by decide) ?_
    refine lv_goto (tgt := 14) hx hb dX1_isPublic_10 (by decide) ?_
    cases h
    exact e_int X hH rfl dX1_isPublic_14
/-- CutoffMill$Rings.has(II)Z -/
def m_X6_has (σ : Sg) (x0 : Int32) (x1 : Int32) : Option Int32 := if ((x0 >>> (x1 &&& 31)) &&& (1 : Int32)) = 1 then some 1 else some 0
set_option maxHeartbeats 4000000 in
set_option maxRecDepth 100000 in
theorem c_X6_has (l : Launch) {Γ : GG} (hJ : IJ Γ) (σ : Sg) (x0 : Int32) (x1 : Int32) (rf : Int32) (h : m_X6_has σ x0 x1 = some rf) : CI l yX6_has (wy yX6_has cX6_has 2 (some .boolean)) { frames := 0, cells := 0, slots := 0, locals := 0 } Γ σ [.int x0, .int x1] σ rf := by
  refine met_of (by decide +kernel) hJ (Nat.le_of_ble_eq_true rfl) (fun p e s m below meth c ls X hH hl => ?_)
  have hl : lv_has ls 2 [(0, .int x0), (1, .int x1)] := hl
  have hx := X.1.1
  have hb := X.1.2.1
  rw [m_X6_has] at h
  refine lv_iload_n hx hb dX6_has_0 rfl (lv_at hl 0 rfl) ?_
  refine lv_iload_n hx hb dX6_has_1 rfl (lv_at hl 1 rfl) ?_
  refine lv_ishr hx hb dX6_has_2 ?_
  refine lv_iconst (v := 1) hx hb dX6_has_3 (by decide) ?_
  refine lv_iand hx hb dX6_has_4 ?_
  refine lv_iconst (v := 1) hx hb dX6_has_5 (by decide) ?_
  refine lv_icmp_ne (tgt := 13) hx hb dX6_has_6 (by decide) (fun hc => ?_) (fun hc => ?_)
  · replace h := if_f h hc
    refine lv_iconst (v := 0) hx hb dX6_has_13 (by decide) ?_
    cases h
    exact e_int X hH rfl dX6_has_14
  · replace h := if_t h hc
    refine lv_iconst (v := 1) hx hb dX6_has_9 (by decide) ?_
    refine lv_goto (tgt := 14) hx hb dX6_has_10 (by decide) ?_
    cases h
    exact e_int X hH rfl dX6_has_14
/-- CutoffMill$Names.joined(II)I -/
def m_X4_joined (σ : Sg) (x0 : Int32) (x1 : Int32) : Option Int32 := if x0 = ((-1)) then some x1 else if x1 = ((-1)) then some x0 else if x1 = x0 then some x0 else some ((-2))
set_option maxHeartbeats 4000000 in
set_option maxRecDepth 100000 in
theorem c_X4_joined (l : Launch) {Γ : GG} (hJ : IJ Γ) (σ : Sg) (x0 : Int32) (x1 : Int32) (rf : Int32) (h : m_X4_joined σ x0 x1 = some rf) : CI l yX4_joined (wy yX4_joined cX4_joined 2 (some .int)) { frames := 0, cells := 0, slots := 0, locals := 0 } Γ σ [.int x0, .int x1] σ rf := by
  refine met_of (by decide +kernel) hJ (Nat.le_of_ble_eq_true rfl) (fun p e s m below meth c ls X hH hl => ?_)
  have hl : lv_has ls 2 [(0, .int x0), (1, .int x1)] := hl
  have hx := X.1.1
  have hb := X.1.2.1
  rw [m_X4_joined] at h
  refine lv_iload_n hx hb dX4_joined_0 rfl (lv_at hl 0 rfl) ?_
  refine lv_iconst (v := (-1)) hx hb dX4_joined_1 (by decide) ?_
  refine lv_icmp_ne (tgt := 7) hx hb dX4_joined_2 (by decide) (fun hc => ?_) (fun hc => ?_)
  · replace h := if_f h hc
    refine lv_iload_n hx hb dX4_joined_7 rfl (lv_at hl 1 rfl) ?_
    refine lv_iconst (v := (-1)) hx hb dX4_joined_8 (by decide) ?_
    refine lv_icmp_eq (tgt := 17) hx hb dX4_joined_9 (by decide) (fun hc => ?_) (fun hc => ?_)
    · replace h := if_t h hc
      refine lv_iload_n hx hb dX4_joined_17 rfl (lv_at hl 0 rfl) ?_
      refine lv_goto (tgt := 23) hx hb dX4_joined_18 (by decide) ?_
      cases h
      exact e_int X hH rfl dX4_joined_23
    · replace h := if_f h hc
      refine lv_iload_n hx hb dX4_joined_12 rfl (lv_at hl 1 rfl) ?_
      refine lv_iload_n hx hb dX4_joined_13 rfl (lv_at hl 0 rfl) ?_
      refine lv_icmp_ne (tgt := 21) hx hb dX4_joined_14 (by decide) (fun hc => ?_) (fun hc => ?_)
      · replace h := if_f h hc
        refine lv_bipush (v := (-2)) hx hb dX4_joined_21 (by decide) ?_
        cases h
        exact e_int X hH rfl dX4_joined_23
      · replace h := if_t h hc
        refine lv_iload_n hx hb dX4_joined_17 rfl (lv_at hl 0 rfl) ?_
        refine lv_goto (tgt := 23) hx hb dX4_joined_18 (by decide) ?_
        cases h
        exact e_int X hH rfl dX4_joined_23
  · replace h := if_t h hc
    refine lv_iload_n hx hb dX4_joined_5 rfl (lv_at hl 1 rfl) ?_
    cases h
    exact e_int X hH rfl dX4_joined_6
def m_X4_broughtTo_18 (σ : Sg) (x1 : Int32) (x2 : Int32) (x3 : Int32)  : Nat → Int32 → Int32 → Option Int32
  | 0, _, _ => none
  | n + 1, x4, x5 => if 8 ≤ x5 then some x4 else if x3 = 0 then some x4 else bnd (m_X6_has σ x3 x5) (fun r102 => if r102 = 0 then m_X4_broughtTo_18 σ x1 x2 x3 n x4 (x5 + 1) else chk (inb ((x5 * (16 : Int32)) + (x1 - x1 / (16 : Int32) * (16 : Int32))) 128) (bnd (m_X4_joined σ x4 (σ.1 6 0 ((x5 * (16 : Int32)) + (x1 - x1 / (16 : Int32) * (16 : Int32))).toNatClampNeg)) (fun r106 => m_X4_broughtTo_18 σ x1 x2 x3 n r106 (x5 + 1))))
set_option maxHeartbeats 4000000 in
set_option maxRecDepth 100000 in
theorem b_X4_broughtTo_18 {p : Program} {l : Launch} {e : Env} {s : State} {m : MethodId} {args : Array Value} {below : List Frame} {meth : Method} {c : Code} {Γ : GG} (X : MB Γ p s m args meth c cX4_broughtTo 6 RX4 (some .int)) (σ : Sg) {rf : Int32} (x1 : Int32) (x2 : Int32) (x3 : Int32) : ∀ (n : Nat), (∀ (x4 : Int32) (x5 : Int32), (m_X4_broughtTo_18 σ x1 x2 x3 n) x4 x5 = some rf → ∀ (H : Heap) (locs : List Loc) (ls : Array Slot), HW (IA Γ) Γ σ s.heap H locs → lv_has ls 6 [(0, .ref (adr Γ 4)), (1, .int x1), (3, .int x3), (4, .int x4), (5, .int x5)] → W p l e ({ frames := 1, cells := 0, slots := 0, locals := 21 } : Room) s m args below meth c H locs 0 0 (QI Γ σ rf below args s) (F0 m 18 ls [])) := by
  have hx := X.1.1
  have hb := X.1.2.1
  intro n
  induction n with
  | zero => intro x4 x5 h; rw [m_X4_broughtTo_18] at h; cases h
  | succ n ih =>
    intro x4 x5 h H locs ls hH hl
    rw [m_X4_broughtTo_18] at h
    refine lv_iload hx hb dX4_broughtTo_18 (lv_at hl 4 rfl) ?_
    refine lv_bipush (v := 8) hx hb dX4_broughtTo_20 (by decide) ?_
    refine lv_icmp_ge (tgt := 66) hx hb dX4_broughtTo_22 (by decide) (fun hc => ?_) (fun hc => ?_)
    · replace h := if_t h hc
      refine lv_iload hx hb dX4_broughtTo_66 (lv_at hl 3 rfl) ?_
      cases h
      exact e_int X hH rfl dX4_broughtTo_68
    · replace h := if_f h hc
      refine lv_iload_n hx hb dX4_broughtTo_25 rfl (lv_at hl 2 rfl) ?_
      refine lv_if_eq (tgt := 66) hx hb dX4_broughtTo_26 (by decide) (fun hc => ?_) (fun hc => ?_)
      · replace h := if_t h hc
        refine lv_iload hx hb dX4_broughtTo_66 (lv_at hl 3 rfl) ?_
        cases h
        exact e_int X hH rfl dX4_broughtTo_68
      · replace h := if_f h hc
        refine lv_iload_n hx hb dX4_broughtTo_29 rfl (lv_at hl 2 rfl) ?_
        refine lv_iload hx hb dX4_broughtTo_30 (lv_at hl 4 rfl) ?_
        obtain ⟨r102, hq101, h⟩ := bnd_some h
        refine r_callSI X.1 hl hH (As := [.int x3, .int x5]) (rest := []) (c_X6_has l X.1.2.2.2.2.2.2.1 σ x3 x5 _ hq101) (cw_S X.1 2 mw_204 mw_202 mw_203 mw_20 rfl rfl (by decide +kernel) ⟨Nat.le_of_ble_eq_true rfl, Nat.le_of_ble_eq_true rfl⟩) rfl rfl (Nat.le_of_ble_eq_true rfl) dX4_broughtTo_32 ⟨Nat.zero_le _, Nat.zero_le _⟩ (fun H locs hH => ?_)
        refine lv_if_eq (tgt := 60) hx hb dX4_broughtTo_35 (by decide) (fun hc => ?_) (fun hc => ?_)
        · replace h := if_t h hc
          refine lv_iinc (v := x5 + 1) (lv' := [(5, .int (x5 + 1)), (0, .ref (adr Γ 4)), (1, .int x1), (3, .int x3), (4, .int x4)]) hx hb dX4_broughtTo_60 hl (k := 4) rfl rfl (by decide) rfl (fun ls hl => ?_)
          refine lv_goto (tgt := 18) hx hb dX4_broughtTo_63 (by decide) ?_
          exact ih  x4 (x5 + 1) h _ _ _ hH (lv_sub hl [1, 2, 3, 4, 0] rfl)
        · replace h := if_f h hc
          refine lv_iload hx hb dX4_broughtTo_38 (lv_at hl 3 rfl) ?_
          refine lv_aload_n hx hb dX4_broughtTo_40 rfl (lv_at hl 0 rfl) ?_
          refine r_get X.1 hH (by decide) rfl rfl inlX4 1 (by decide) (v := .ref (adr Γ 5)) rfl mw_40 dX4_broughtTo_41 ?_
          refine lv_iload hx hb dX4_broughtTo_44 (lv_at hl 4 rfl) ?_
          refine lv_bipush (v := 16) hx hb dX4_broughtTo_46 (by decide) ?_
          refine lv_imul hx hb dX4_broughtTo_48 ?_
          refine lv_iload_n hx hb dX4_broughtTo_49 rfl (lv_at hl 1 rfl) ?_
          refine lv_bipush (v := 16) hx hb dX4_broughtTo_50 (by decide) ?_
          refine lv_irem hx hb dX4_broughtTo_52 (by decide) ?_
          refine lv_iadd hx hb dX4_broughtTo_53 ?_
          obtain ⟨hg104, h⟩ := chk_some h
          refine r_ild X.1 hH (by decide) rfl hg104 dX4_broughtTo_54 ?_
          obtain ⟨r106, hq105, h⟩ := bnd_some h
          refine r_callSI X.1 hl hH (As := [.int x4, .int (σ.1 6 0 ((x5 * (16 : Int32)) + (x1 - x1 / (16 : Int32) * (16 : Int32))).toNatClampNeg)]) (rest := []) (c_X4_joined l X.1.2.2.2.2.2.2.1 σ x4 (σ.1 6 0 ((x5 * (16 : Int32)) + (x1 - x1 / (16 : Int32) * (16 : Int32))).toNatClampNeg) _ hq105) (cw_S X.1 2 mw_207 mw_205 mw_206 mw_16 rfl rfl (by decide +kernel) ⟨Nat.le_of_ble_eq_true rfl, Nat.le_of_ble_eq_true rfl⟩) rfl rfl (Nat.le_of_ble_eq_true rfl) dX4_broughtTo_55 ⟨Nat.zero_le _, Nat.zero_le _⟩ (fun H locs hH => ?_)
          refine lv_istore (lv' := [(4, .int r106), (0, .ref (adr Γ 4)), (1, .int x1), (3, .int x3), (5, .int x5)]) hx hb dX4_broughtTo_58 hl (by decide) rfl (fun ls hl => ?_)
          refine lv_iinc (v := x5 + 1) (lv' := [(5, .int (x5 + 1)), (4, .int r106), (0, .ref (adr Γ 4)), (1, .int x1), (3, .int x3)]) hx hb dX4_broughtTo_60 hl (k := 4) rfl rfl (by decide) rfl (fun ls hl => ?_)
          refine lv_goto (tgt := 18) hx hb dX4_broughtTo_63 (by decide) ?_
          exact ih  r106 (x5 + 1) h _ _ _ hH (lv_sub hl [2, 3, 4, 1, 0] rfl)
/-- CutoffMill$Names.broughtTo(III)I -/
def m_X4_broughtTo (σ : Sg) (x1 : Int32) (x2 : Int32) (x3 : Int32) : Option Int32 := if x2 = ((-1)) then m_X4_broughtTo_18 σ x1 x2 x3 1000 ((-1)) 0 else chk (inb x2 128) (some (σ.1 6 0 x2.toNatClampNeg))
set_option maxHeartbeats 4000000 in
set_option maxRecDepth 100000 in
theorem c_X4_broughtTo (l : Launch) {Γ : GG} (hJ : IJ Γ) (σ : Sg) (x1 : Int32) (x2 : Int32) (x3 : Int32) (rf : Int32) (h : m_X4_broughtTo σ x1 x2 x3 = some rf) : CI l yX4_broughtTo (wy yX4_broughtTo cX4_broughtTo 6 (some .int)) { frames := 1, cells := 0, slots := 0, locals := 21 } Γ σ [.ref (adr Γ 4), .int x1, .int x2, .int x3] σ rf := by
  refine met_of (by decide +kernel) hJ (Nat.le_of_ble_eq_true rfl) (fun p e s m below meth c ls X hH hl => ?_)
  have hl : lv_has ls 6 [(0, .ref (adr Γ 4)), (1, .int x1), (2, .int x2), (3, .int x3)] := hl
  have hx := X.1.1
  have hb := X.1.2.1
  rw [m_X4_broughtTo] at h
  refine lv_iload_n hx hb dX4_broughtTo_0 rfl (lv_at hl 2 rfl) ?_
  refine lv_iconst (v := (-1)) hx hb dX4_broughtTo_1 (by decide) ?_
  refine lv_icmp_eq (tgt := 12) hx hb dX4_broughtTo_2 (by decide) (fun hc => ?_) (fun hc => ?_)
  · replace h := if_t h hc
    refine lv_iconst (v := (-1)) hx hb dX4_broughtTo_12 (by decide) ?_
    refine lv_istore (lv' := [(4, .int ((-1))), (0, .ref (adr Γ 4)), (1, .int x1), (2, .int x2), (3, .int x3)]) hx hb dX4_broughtTo_13 hl (by decide) rfl (fun ls hl => ?_)
    refine lv_iconst (v := 0) hx hb dX4_broughtTo_15 (by decide) ?_
    refine lv_istore (lv' := [(5, .int 0), (4, .int ((-1))), (0, .ref (adr Γ 4)), (1, .int x1), (2, .int x2), (3, .int x3)]) hx hb dX4_broughtTo_16 hl (by decide) rfl (fun ls hl => ?_)
    exact b_X4_broughtTo_18 X σ x1 x2 x3  1000  ((-1)) 0 h _ _ _ hH (lv_sub hl [2, 3, 5, 1, 0] rfl)
  · replace h := if_f h hc
    refine lv_aload_n hx hb dX4_broughtTo_5 rfl (lv_at hl 0 rfl) ?_
    refine r_get X.1 hH (by decide) rfl rfl inlX4 1 (by decide) (v := .ref (adr Γ 5)) rfl mw_40 dX4_broughtTo_6 ?_
    refine lv_iload_n hx hb dX4_broughtTo_9 rfl (lv_at hl 2 rfl) ?_
    obtain ⟨hg108, h⟩ := chk_some h
    refine r_ild X.1 hH (by decide) rfl hg108 dX4_broughtTo_10 ?_
    cases h
    exact e_int X hH rfl dX4_broughtTo_11
/-- CutoffMill$Names.lookedUp(I)I -/
def m_X4_lookedUp (σ : Sg) (x1 : Int32) : Option Int32 := bnd (m_X8_isDeclared σ 0 x1) (fun r102 => if r102 = 0 then chk (inb x1 128) (chk (inb (x1 / (16 : Int32)) 8) (bnd (m_X4_broughtTo σ x1 (σ.1 10 0 x1.toNatClampNeg) (σ.1 12 0 (x1 / (16 : Int32)).toNatClampNeg)) (fun r107 => some r107))) else chk (inb x1 128) (bnd (m_X1_isPublic σ (σ.1 26 0 x1.toNatClampNeg)) (fun r111 => if r111 = 0 then some ((-1)) else some x1)))
set_option maxHeartbeats 4000000 in
set_option maxRecDepth 100000 in
theorem c_X4_lookedUp (l : Launch) {Γ : GG} (hJ : IJ Γ) (σ : Sg) (x1 : Int32) (rf : Int32) (h : m_X4_lookedUp σ x1 = some rf) : CI l yX4_lookedUp (wy yX4_lookedUp cX4_lookedUp 2 (some .int)) { frames := 2, cells := 0, slots := 0, locals := 46 } Γ σ [.ref (adr Γ 4), .int x1] σ rf := by
  refine met_of (by decide +kernel) hJ (Nat.le_of_ble_eq_true rfl) (fun p e s m below meth c ls X hH hl => ?_)
  have hl : lv_has ls 2 [(0, .ref (adr Γ 4)), (1, .int x1)] := hl
  have hx := X.1.1
  have hb := X.1.2.1
  rw [m_X4_lookedUp] at h
  refine lv_aload_n hx hb dX4_lookedUp_0 rfl (lv_at hl 0 rfl) ?_
  refine r_get X.1 hH (by decide) rfl rfl inlX4 0 (by decide) (v := .ref (adr Γ (kT 0))) rfl mw_47 dX4_lookedUp_1 ?_
  refine lv_iload_n hx hb dX4_lookedUp_4 rfl (lv_at hl 1 rfl) ?_
  obtain ⟨r102, hq101, h⟩ := bnd_some h
  refine r_callVI X.1 hl hH (As := [.int x1]) (rest := []) (c_X8_isDeclared l X.1.2.2.2.2.2.2.1 σ 0 (by omega) x1 _ hq101) (cw_V X.1 1 mw_193 mw_190 mw_191 mw_192 mw_12 rfl rfl (by decide +kernel) ⟨Nat.le_of_ble_eq_true rfl, Nat.le_of_ble_eq_true rfl⟩) (r_recv X.1 hH (kT_lt (by omega)) (dT0 _ (by omega)) rfl) rfl rfl (Nat.le_of_ble_eq_true rfl) dX4_lookedUp_5 ⟨Nat.zero_le _, Nat.zero_le _⟩ (fun H locs hH => ?_)
  refine lv_if_eq (tgt := 32) hx hb dX4_lookedUp_8 (by decide) (fun hc => ?_) (fun hc => ?_)
  · replace h := if_t h hc
    refine lv_aload_n hx hb dX4_lookedUp_32 rfl (lv_at hl 0 rfl) ?_
    refine lv_iload_n hx hb dX4_lookedUp_33 rfl (lv_at hl 1 rfl) ?_
    refine lv_aload_n hx hb dX4_lookedUp_34 rfl (lv_at hl 0 rfl) ?_
    refine r_get X.1 hH (by decide) rfl rfl inlX4 5 (by decide) (v := .ref (adr Γ 9)) rfl mw_44 dX4_lookedUp_35 ?_
    refine lv_iload_n hx hb dX4_lookedUp_38 rfl (lv_at hl 1 rfl) ?_
    obtain ⟨hg104, h⟩ := chk_some h
    refine r_ild X.1 hH (by decide) rfl hg104 dX4_lookedUp_39 ?_
    refine lv_aload_n hx hb dX4_lookedUp_40 rfl (lv_at hl 0 rfl) ?_
    refine r_get X.1 hH (by decide) rfl rfl inlX4 7 (by decide) (v := .ref (adr Γ 11)) rfl mw_46 dX4_lookedUp_41 ?_
    refine lv_iload_n hx hb dX4_lookedUp_44 rfl (lv_at hl 1 rfl) ?_
    refine lv_bipush (v := 16) hx hb dX4_lookedUp_45 (by decide) ?_
    refine lv_idiv hx hb dX4_lookedUp_47 (by decide) ?_
    obtain ⟨hg105, h⟩ := chk_some h
    refine r_ild X.1 hH (by decide) rfl hg105 dX4_lookedUp_48 ?_
    obtain ⟨r107, hq106, h⟩ := bnd_some h
    refine r_callVI X.1 hl hH (As := [.int x1, .int (σ.1 10 0 x1.toNatClampNeg), .int (σ.1 12 0 (x1 / (16 : Int32)).toNatClampNeg)]) (rest := []) (c_X4_broughtTo l X.1.2.2.2.2.2.2.1 σ x1 (σ.1 10 0 x1.toNatClampNeg) (σ.1 12 0 (x1 / (16 : Int32)).toNatClampNeg) _ hq106) (cw_V X.1 3 mw_201 mw_198 mw_199 mw_200 mw_16 rfl rfl (by decide +kernel) ⟨Nat.le_of_ble_eq_true rfl, Nat.le_of_ble_eq_true rfl⟩) (r_recv X.1 hH (by decide) rfl rfl) rfl rfl (Nat.le_of_ble_eq_true rfl) dX4_lookedUp_49 ⟨Nat.zero_le _, Nat.zero_le _⟩ (fun H locs hH => ?_)
    cases h
    exact e_int X hH rfl dX4_lookedUp_52
  · replace h := if_f h hc
    refine lv_aload_n hx hb dX4_lookedUp_11 rfl (lv_at hl 0 rfl) ?_
    refine r_get X.1 hH (by decide) rfl rfl inlX4 0 (by decide) (v := .ref (adr Γ (kT 0))) rfl mw_47 dX4_lookedUp_12 ?_
    refine r_get X.1 hH (kT_lt (by omega)) (dT0 _ (by omega)) rfl inlX8 0 (by decide) (v := .ref (adr Γ (kT 0 + 1))) rfl mw_189 dX4_lookedUp_15 ?_
    refine lv_iload_n hx hb dX4_lookedUp_18 rfl (lv_at hl 1 rfl) ?_
    obtain ⟨hg109, h⟩ := chk_some h
    refine r_ild X.1 hH (lT1 _ (by omega)) (dT1 _ (by omega)) hg109 dX4_lookedUp_19 ?_
    obtain ⟨r111, hq110, h⟩ := bnd_some h
    refine r_callSI X.1 hl hH (As := [.int (σ.1 26 0 x1.toNatClampNeg)]) (rest := []) (c_X1_isPublic l X.1.2.2.2.2.2.2.1 σ (σ.1 26 0 x1.toNatClampNeg) _ hq110) (cw_S X.1 1 mw_197 mw_194 mw_195 mw_196 rfl rfl (by decide +kernel) ⟨Nat.le_of_ble_eq_true rfl, Nat.le_of_ble_eq_true rfl⟩) rfl rfl (Nat.le_of_ble_eq_true rfl) dX4_lookedUp_20 ⟨Nat.zero_le _, Nat.zero_le _⟩ (fun H locs hH => ?_)
    refine lv_if_eq (tgt := 30) hx hb dX4_lookedUp_23 (by decide) (fun hc => ?_) (fun hc => ?_)
    · replace h := if_t h hc
      refine lv_iconst (v := (-1)) hx hb dX4_lookedUp_30 (by decide) ?_
      cases h
      exact e_int X hH rfl dX4_lookedUp_31
    · replace h := if_f h hc
      refine lv_iload_n hx hb dX4_lookedUp_26 rfl (lv_at hl 1 rfl) ?_
      refine lv_goto (tgt := 31) hx hb dX4_lookedUp_27 (by decide) ?_
      cases h
      exact e_int X hH rfl dX4_lookedUp_31
def m_X4_settleOutside_27  (k12 : Sg → Int32 → Int32 → Option Sg) : Nat → Sg → Int32 → Int32 → Int32 → Option Sg
  | 0, _, _, _, _ => none
  | n + 1, σ, x1, x2, x3 => if ((σ.1 29 0 0) * (16 : Int32)) ≤ x3 then k12 σ x1 (x2 + 1) else bnd (m_X4_lookedUp σ x3) (fun r105 => chk (inb x3 128) (if r105 = (σ.1 6 0 x3.toNatClampNeg) then m_X4_settleOutside_27  k12 n σ x1 x2 (x3 + 1) else chk (inb x3 128) (st (wI σ 6 0 x3.toNatClampNeg r105) (fun σ109 => m_X4_settleOutside_27  k12 n σ109 1 x2 (x3 + 1)))))
set_option maxHeartbeats 4000000 in
set_option maxRecDepth 100000 in
theorem b_X4_settleOutside_27 {p : Program} {l : Launch} {e : Env} {s : State} {m : MethodId} {args : Array Value} {below : List Frame} {meth : Method} {c : Code} {Γ : GG} (X : MB Γ p s m args meth c cX4_settleOutside 5 RX4 none) {σf : Sg} {rf : Unit}  (k12 : Sg → Int32 → Int32 → Option Sg) (hk12 : (∀ (σ : Sg) (x1 : Int32) (x2 : Int32), k12 σ x1 x2 = some σf → ∀ (H : Heap) (locs : List Loc) (ls : Array Slot), HW (IA Γ) Γ σ s.heap H locs → lv_has ls 5 [(0, .ref (adr Γ 4)), (1, .int x1), (2, .int x2)] → W p l e ({ frames := 3, cells := 0, slots := 0, locals := 67 } : Room) s m args below meth c H locs 0 0 (QV Γ σf rf below args s) (F0 m 12 ls []))) : ∀ (n : Nat), (∀ (σ : Sg) (x1 : Int32) (x2 : Int32) (x3 : Int32), (m_X4_settleOutside_27  k12 n) σ x1 x2 x3 = some σf → ∀ (H : Heap) (locs : List Loc) (ls : Array Slot), HW (IA Γ) Γ σ s.heap H locs → lv_has ls 5 [(0, .ref (adr Γ 4)), (1, .int x1), (2, .int x2), (3, .int x3)] → W p l e ({ frames := 3, cells := 0, slots := 0, locals := 67 } : Room) s m args below meth c H locs 0 0 (QV Γ σf rf below args s) (F0 m 27 ls [])) := by
  have hx := X.1.1
  have hb := X.1.2.1
  intro n
  induction n with
  | zero => intro σ x1 x2 x3 h; rw [m_X4_settleOutside_27] at h; cases h
  | succ n ih =>
    intro σ x1 x2 x3 h H locs ls hH hl
    rw [m_X4_settleOutside_27] at h
    refine lv_iload_n hx hb dX4_settleOutside_27 rfl (lv_at hl 3 rfl) ?_
    refine lv_aload_n hx hb dX4_settleOutside_28 rfl (lv_at hl 0 rfl) ?_
    refine r_get X.1 hH (by decide) rfl rfl inlX4 0 (by decide) (v := .ref (adr Γ (kT 0))) rfl mw_47 dX4_settleOutside_29 ?_
    refine r_get X.1 hH (kT_lt (by omega)) (dT0 _ (by omega)) rfl inlX8 3 (by decide) (v := .int (σ.1 29 0 0)) rfl mw_146 dX4_settleOutside_32 ?_
    refine lv_bipush (v := 16) hx hb dX4_settleOutside_35 (by decide) ?_
    refine lv_imul hx hb dX4_settleOutside_37 ?_
    refine lv_icmp_ge (tgt := 75) hx hb dX4_settleOutside_38 (by decide) (fun hc => ?_) (fun hc => ?_)
    · replace h := if_t h hc
      refine lv_iinc (v := x2 + 1) (lv' := [(2, .int (x2 + 1)), (0, .ref (adr Γ 4)), (1, .int x1), (3, .int x3)]) hx hb dX4_settleOutside_75 hl (k := 2) rfl rfl (by decide) rfl (fun ls hl => ?_)
      refine lv_goto (tgt := 12) hx hb dX4_settleOutside_78 (by decide) ?_
      exact hk12 σ x1 (x2 + 1) h _ _ _ hH (lv_sub hl [1, 2, 0] rfl)
    · replace h := if_f h hc
      refine lv_aload_n hx hb dX4_settleOutside_41 rfl (lv_at hl 0 rfl) ?_
      refine lv_iload_n hx hb dX4_settleOutside_42 rfl (lv_at hl 3 rfl) ?_
      obtain ⟨r105, hq104, h⟩ := bnd_some h
      refine r_callVI X.1 hl hH (As := [.int x3]) (rest := []) (c_X4_lookedUp l X.1.2.2.2.2.2.2.1 σ x3 _ hq104) (cw_V X.1 1 mw_188 mw_185 mw_186 mw_187 mw_16 rfl rfl (by decide +kernel) ⟨Nat.le_of_ble_eq_true rfl, Nat.le_of_ble_eq_true rfl⟩) (r_recv X.1 hH (by decide) rfl rfl) rfl rfl (Nat.le_of_ble_eq_true rfl) dX4_settleOutside_43 ⟨Nat.zero_le _, Nat.zero_le _⟩ (fun H locs hH => ?_)
      refine lv_istore (lv' := [(4, .int r105), (0, .ref (adr Γ 4)), (1, .int x1), (2, .int x2), (3, .int x3)]) hx hb dX4_settleOutside_46 hl (by decide) rfl (fun ls hl => ?_)
      refine lv_iload hx hb dX4_settleOutside_48 (lv_at hl 0 rfl) ?_
      refine lv_aload_n hx hb dX4_settleOutside_50 rfl (lv_at hl 1 rfl) ?_
      refine r_get X.1 hH (by decide) rfl rfl inlX4 1 (by decide) (v := .ref (adr Γ 5)) rfl mw_40 dX4_settleOutside_51 ?_
      refine lv_iload_n hx hb dX4_settleOutside_54 rfl (lv_at hl 4 rfl) ?_
      obtain ⟨hg107, h⟩ := chk_some h
      refine r_ild X.1 hH (by decide) rfl hg107 dX4_settleOutside_55 ?_
      refine lv_icmp_eq (tgt := 69) hx hb dX4_settleOutside_56 (by decide) (fun hc => ?_) (fun hc => ?_)
      · replace h := if_t h hc
        refine lv_iinc (v := x3 + 1) (lv' := [(3, .int (x3 + 1)), (4, .int r105), (0, .ref (adr Γ 4)), (1, .int x1), (2, .int x2)]) hx hb dX4_settleOutside_69 hl (k := 4) rfl rfl (by decide) rfl (fun ls hl => ?_)
        refine lv_goto (tgt := 27) hx hb dX4_settleOutside_72 (by decide) ?_
        exact ih σ x1 x2 (x3 + 1) h _ _ _ hH (lv_sub hl [2, 3, 4, 0] rfl)
      · replace h := if_f h hc
        refine lv_aload_n hx hb dX4_settleOutside_59 rfl (lv_at hl 1 rfl) ?_
        refine r_get X.1 hH (by decide) rfl rfl inlX4 1 (by decide) (v := .ref (adr Γ 5)) rfl mw_40 dX4_settleOutside_60 ?_
        refine lv_iload_n hx hb dX4_settleOutside_63 rfl (lv_at hl 4 rfl) ?_
        refine lv_iload hx hb dX4_settleOutside_64 (lv_at hl 0 rfl) ?_
        obtain ⟨hg108, h⟩ := chk_some h
        obtain ⟨σ109, e110, h⟩ := st_some h
        refine r_ist X.1 hH (by decide) rfl hg108 dX4_settleOutside_66 (fun H locs hH => ?_)
        replace hH : HW (IA Γ) Γ σ109 s.heap H locs := by rw [e110]; exact hH
        refine lv_iconst (v := 1) hx hb dX4_settleOutside_67 (by decide) ?_
        refine lv_istore_n (lv' := [(1, .int 1), (4, .int r105), (0, .ref (adr Γ 4)), (2, .int x2), (3, .int x3)]) hx hb dX4_settleOutside_68 rfl hl (by decide) rfl (fun ls hl => ?_)
        refine lv_iinc (v := x3 + 1) (lv' := [(3, .int (x3 + 1)), (1, .int 1), (4, .int r105), (0, .ref (adr Γ 4)), (2, .int x2)]) hx hb dX4_settleOutside_69 hl (k := 4) rfl rfl (by decide) rfl (fun ls hl => ?_)
        refine lv_goto (tgt := 27) hx hb dX4_settleOutside_72 (by decide) ?_
        exact ih σ109 1 x2 (x3 + 1) h _ _ _ hH (lv_sub hl [3, 1, 4, 0] rfl)
def m_X4_settleOutside_12   : Nat → Sg → Int32 → Int32 → Option Sg
  | 0, _, _, _ => none
  | n + 1, σ, x1, x2 => if 256 < x2 then some σ else if x1 = 0 then some σ else m_X4_settleOutside_27  (m_X4_settleOutside_12  n) 1000 σ 0 x2 0
set_option maxHeartbeats 4000000 in
set_option maxRecDepth 100000 in
theorem b_X4_settleOutside_12 {p : Program} {l : Launch} {e : Env} {s : State} {m : MethodId} {args : Array Value} {below : List Frame} {meth : Method} {c : Code} {Γ : GG} (X : MB Γ p s m args meth c cX4_settleOutside 5 RX4 none) {σf : Sg} {rf : Unit}  : ∀ (n : Nat), (∀ (σ : Sg) (x1 : Int32) (x2 : Int32), (m_X4_settleOutside_12  n) σ x1 x2 = some σf → ∀ (H : Heap) (locs : List Loc) (ls : Array Slot), HW (IA Γ) Γ σ s.heap H locs → lv_has ls 5 [(0, .ref (adr Γ 4)), (1, .int x1), (2, .int x2)] → W p l e ({ frames := 3, cells := 0, slots := 0, locals := 67 } : Room) s m args below meth c H locs 0 0 (QV Γ σf rf below args s) (F0 m 12 ls [])) := by
  have hx := X.1.1
  have hb := X.1.2.1
  intro n
  induction n with
  | zero => intro σ x1 x2 h; rw [m_X4_settleOutside_12] at h; cases h
  | succ n ih =>
    intro σ x1 x2 h H locs ls hH hl
    rw [m_X4_settleOutside_12] at h
    refine lv_iload_n hx hb dX4_settleOutside_12 rfl (lv_at hl 2 rfl) ?_
    refine lv_sipush (v := 256) hx hb dX4_settleOutside_13 (by decide) ?_
    refine lv_icmp_gt (tgt := 81) hx hb dX4_settleOutside_16 (by decide) (fun hc => ?_) (fun hc => ?_)
    · replace h := if_t h hc
      cases h
      exact e_void (v := rf) X hH dX4_settleOutside_81
    · replace h := if_f h hc
      refine lv_iload_n hx hb dX4_settleOutside_19 rfl (lv_at hl 1 rfl) ?_
      refine lv_if_eq (tgt := 81) hx hb dX4_settleOutside_20 (by decide) (fun hc => ?_) (fun hc => ?_)
      · replace h := if_t h hc
        cases h
        exact e_void (v := rf) X hH dX4_settleOutside_81
      · replace h := if_f h hc
        refine lv_iconst (v := 0) hx hb dX4_settleOutside_23 (by decide) ?_
        refine lv_istore_n (lv' := [(1, .int 0), (0, .ref (adr Γ 4)), (2, .int x2)]) hx hb dX4_settleOutside_24 rfl hl (by decide) rfl (fun ls hl => ?_)
        refine lv_iconst (v := 0) hx hb dX4_settleOutside_25 (by decide) ?_
        refine lv_istore_n (lv' := [(3, .int 0), (1, .int 0), (0, .ref (adr Γ 4)), (2, .int x2)]) hx hb dX4_settleOutside_26 rfl hl (by decide) rfl (fun ls hl => ?_)
        exact b_X4_settleOutside_27 (rf := ()) X  (m_X4_settleOutside_12  n) ih 1000 σ 0 x2 0 h _ _ _ hH (lv_sub hl [2, 1, 3, 0] rfl)
/-- CutoffMill$Names.settleOutside()V -/
def m_X4_settleOutside (σ : Sg)  : Option Sg := bnd (m_J7_fill_53178 σ 6 0 128 ((-1))) (fun σ103 => m_X4_settleOutside_12  1000 σ103 1 0)
set_option maxHeartbeats 4000000 in
set_option maxRecDepth 100000 in
theorem c_X4_settleOutside (l : Launch) {Γ : GG} (hJ : IJ Γ) (σ : Sg)  (σf : Sg) (rf : Unit) (h : m_X4_settleOutside σ  = some σf) : CV l yX4_settleOutside (wy yX4_settleOutside cX4_settleOutside 5 none) { frames := 3, cells := 0, slots := 0, locals := 67 } Γ σ [.ref (adr Γ 4)] σf rf := by
  refine met_of (by decide +kernel) hJ (Nat.le_of_ble_eq_true rfl) (fun p e s m below meth c ls X hH hl => ?_)
  have hl : lv_has ls 5 [(0, .ref (adr Γ 4))] := hl
  have hx := X.1.1
  have hb := X.1.2.1
  rw [m_X4_settleOutside] at h
  refine lv_aload_n hx hb dX4_settleOutside_0 rfl (lv_at hl 0 rfl) ?_
  refine r_get X.1 hH (by decide) rfl rfl inlX4 1 (by decide) (v := .ref (adr Γ 5)) rfl mw_40 dX4_settleOutside_1 ?_
  refine lv_iconst (v := (-1)) hx hb dX4_settleOutside_4 (by decide) ?_
  obtain ⟨σ103, hq101, h⟩ := bnd_some h
  refine r_callSV X.1 hl hH (r := ()) (As := [.ref (adr Γ 5), .int ((-1))]) (rest := []) (c_J7_fill_53178 l X.1.2.2.2.2.2.2.1 σ 6 0 128 5 (by decide) rfl ((-1)) _ () hq101) (cw_S X.1 2 mw_155 mw_152 mw_153 mw_154 rfl rfl (by decide +kernel) ⟨Nat.le_of_ble_eq_true rfl, Nat.le_of_ble_eq_true rfl⟩) rfl rfl (Nat.le_of_ble_eq_true rfl) dX4_settleOutside_5 ⟨Nat.zero_le _, Nat.zero_le _⟩ (fun H locs hH => ?_)
  refine lv_iconst (v := 1) hx hb dX4_settleOutside_8 (by decide) ?_
  refine lv_istore_n (lv' := [(1, .int 1), (0, .ref (adr Γ 4))]) hx hb dX4_settleOutside_9 rfl hl (by decide) rfl (fun ls hl => ?_)
  refine lv_iconst (v := 0) hx hb dX4_settleOutside_10 (by decide) ?_
  refine lv_istore_n (lv' := [(2, .int 0), (1, .int 1), (0, .ref (adr Γ 4))]) hx hb dX4_settleOutside_11 rfl hl (by decide) rfl (fun ls hl => ?_)
  exact b_X4_settleOutside_12 (rf := ()) X   1000 σ103 1 0 h _ _ _ hH (lv_sub hl [2, 1, 0] rfl)
end
