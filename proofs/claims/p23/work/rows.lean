section
-- ===== PART A: goes FIRST, ahead of the names: the tables' words, and 'selects' of the private methods out of them =====
/-- a private method of a class that the tables say can be made, by its rows of tables_1 -/
def lw_okq (q : MethodName × Nat) : Prop := (q.1.cls ≠ "java/lang/invoke/MethodHandle" ∧ q.1.cls ≠ "java/lang/invoke/VarHandle") ∧ Cond.instantiable q.1.cls q.2 ∈ tables_1 ∧ Cond.privateMethod q.1 ∈ tables_1 ∧ Cond.instanceMethod q.1 ∈ tables_1
theorem lw_p0 : lw_okq (⟨"CutoffMill$Result", "setUnbuilt", "(I)V"⟩, 10) := ⟨⟨by decide +kernel, by decide +kernel⟩, List.mem_of_getElem? (i := 154) (by decide +kernel), List.mem_of_getElem? (i := 162) (by decide +kernel), List.mem_of_getElem? (i := 163) (by decide +kernel)⟩
theorem lw_p1 : lw_okq (⟨"java/lang/Throwable", "fillInStackTrace", "(I)Ljava/lang/Throwable;"⟩, 6) := ⟨⟨by decide +kernel, by decide +kernel⟩, List.mem_of_getElem? (i := 358) (by decide +kernel), List.mem_of_getElem? (i := 356) (by decide +kernel), List.mem_of_getElem? (i := 357) (by decide +kernel)⟩
theorem lw_p2 : lw_okq (⟨"CutoffMill", "settle", "()V"⟩, 11) := ⟨⟨by decide +kernel, by decide +kernel⟩, List.mem_of_getElem? (i := 22) (by decide +kernel), List.mem_of_getElem? (i := 388) (by decide +kernel), List.mem_of_getElem? (i := 389) (by decide +kernel)⟩
theorem lw_p3 : lw_okq (⟨"CutoffMill$Names", "settleImports", "()V"⟩, 8) := ⟨⟨by decide +kernel, by decide +kernel⟩, List.mem_of_getElem? (i := 59) (by decide +kernel), List.mem_of_getElem? (i := 396) (by decide +kernel), List.mem_of_getElem? (i := 397) (by decide +kernel)⟩
theorem lw_p4 : lw_okq (⟨"CutoffMill$Names", "settleImport", "(II)V"⟩, 8) := ⟨⟨by decide +kernel, by decide +kernel⟩, List.mem_of_getElem? (i := 59) (by decide +kernel), List.mem_of_getElem? (i := 407) (by decide +kernel), List.mem_of_getElem? (i := 408) (by decide +kernel)⟩
theorem lw_p5 : lw_okq (⟨"CutoffMill$Names", "settleOutside", "()V"⟩, 8) := ⟨⟨by decide +kernel, by decide +kernel⟩, List.mem_of_getElem? (i := 59) (by decide +kernel), List.mem_of_getElem? (i := 427) (by decide +kernel), List.mem_of_getElem? (i := 428) (by decide +kernel)⟩
theorem lw_p6 : lw_okq (⟨"CutoffMill$Names", "lookedUp", "(I)I"⟩, 8) := ⟨⟨by decide +kernel, by decide +kernel⟩, List.mem_of_getElem? (i := 59) (by decide +kernel), List.mem_of_getElem? (i := 431) (by decide +kernel), List.mem_of_getElem? (i := 432) (by decide +kernel)⟩
theorem lw_p7 : lw_okq (⟨"CutoffMill$Names", "broughtTo", "(III)I"⟩, 8) := ⟨⟨by decide +kernel, by decide +kernel⟩, List.mem_of_getElem? (i := 59) (by decide +kernel), List.mem_of_getElem? (i := 442) (by decide +kernel), List.mem_of_getElem? (i := 443) (by decide +kernel)⟩
theorem lw_p8 : lw_okq (⟨"CutoffMill$Names", "wantReferences", "(I)V"⟩, 8) := ⟨⟨by decide +kernel, by decide +kernel⟩, List.mem_of_getElem? (i := 59) (by decide +kernel), List.mem_of_getElem? (i := 452) (by decide +kernel), List.mem_of_getElem? (i := 453) (by decide +kernel)⟩
theorem lw_p9 : lw_okq (⟨"CutoffMill$Names", "want", "(II)V"⟩, 8) := ⟨⟨by decide +kernel, by decide +kernel⟩, List.mem_of_getElem? (i := 59) (by decide +kernel), List.mem_of_getElem? (i := 459) (by decide +kernel), List.mem_of_getElem? (i := 460) (by decide +kernel)⟩
theorem lw_p10 : lw_okq (⟨"CutoffMill$Rings", "settleLeaning", "()V"⟩, 7) := ⟨⟨by decide +kernel, by decide +kernel⟩, List.mem_of_getElem? (i := 94) (by decide +kernel), List.mem_of_getElem? (i := 467) (by decide +kernel), List.mem_of_getElem? (i := 468) (by decide +kernel)⟩
theorem lw_p11 : lw_okq (⟨"CutoffMill$Rings", "ringAround", "(I)I"⟩, 7) := ⟨⟨by decide +kernel, by decide +kernel⟩, List.mem_of_getElem? (i := 94) (by decide +kernel), List.mem_of_getElem? (i := 474) (by decide +kernel), List.mem_of_getElem? (i := 475) (by decide +kernel)⟩
theorem lw_p12 : lw_okq (⟨"CutoffMill$Rings", "settleOrder", "()V"⟩, 7) := ⟨⟨by decide +kernel, by decide +kernel⟩, List.mem_of_getElem? (i := 94) (by decide +kernel), List.mem_of_getElem? (i := 478) (by decide +kernel), List.mem_of_getElem? (i := 479) (by decide +kernel)⟩
theorem lw_p13 : lw_okq (⟨"CutoffMill$Rings", "nextBehind", "(I)I"⟩, 7) := ⟨⟨by decide +kernel, by decide +kernel⟩, List.mem_of_getElem? (i := 94) (by decide +kernel), List.mem_of_getElem? (i := 482) (by decide +kernel), List.mem_of_getElem? (i := 483) (by decide +kernel)⟩
theorem lw_p14 : lw_okq (⟨"CutoffMill$Rings", "placeModules", "(II)V"⟩, 7) := ⟨⟨by decide +kernel, by decide +kernel⟩, List.mem_of_getElem? (i := 94) (by decide +kernel), List.mem_of_getElem? (i := 486) (by decide +kernel), List.mem_of_getElem? (i := 487) (by decide +kernel)⟩
theorem lw_p15 : lw_okq (⟨"CutoffMill$Works", "firstUnbuilt", "(I)I"⟩, 8) := ⟨⟨by decide +kernel, by decide +kernel⟩, List.mem_of_getElem? (i := 130) (by decide +kernel), List.mem_of_getElem? (i := 517) (by decide +kernel), List.mem_of_getElem? (i := 518) (by decide +kernel)⟩
def lw_privs_1 : List (MethodName × Nat) := [(⟨"CutoffMill$Result", "setUnbuilt", "(I)V"⟩, 10), (⟨"java/lang/Throwable", "fillInStackTrace", "(I)Ljava/lang/Throwable;"⟩, 6), (⟨"CutoffMill", "settle", "()V"⟩, 11), (⟨"CutoffMill$Names", "settleImports", "()V"⟩, 8), (⟨"CutoffMill$Names", "settleImport", "(II)V"⟩, 8), (⟨"CutoffMill$Names", "settleOutside", "()V"⟩, 8), (⟨"CutoffMill$Names", "lookedUp", "(I)I"⟩, 8), (⟨"CutoffMill$Names", "broughtTo", "(III)I"⟩, 8), (⟨"CutoffMill$Names", "wantReferences", "(I)V"⟩, 8), (⟨"CutoffMill$Names", "want", "(II)V"⟩, 8), (⟨"CutoffMill$Rings", "settleLeaning", "()V"⟩, 7), (⟨"CutoffMill$Rings", "ringAround", "(I)I"⟩, 7), (⟨"CutoffMill$Rings", "settleOrder", "()V"⟩, 7), (⟨"CutoffMill$Rings", "nextBehind", "(I)I"⟩, 7), (⟨"CutoffMill$Rings", "placeModules", "(II)V"⟩, 7), (⟨"CutoffMill$Works", "firstUnbuilt", "(I)I"⟩, 8)]
theorem lw_r1 : ∀ q ∈ lw_privs_1, lw_okq q := List.forall_mem_cons.mpr ⟨lw_p0, List.forall_mem_cons.mpr ⟨lw_p1, List.forall_mem_cons.mpr ⟨lw_p2, List.forall_mem_cons.mpr ⟨lw_p3, List.forall_mem_cons.mpr ⟨lw_p4, List.forall_mem_cons.mpr ⟨lw_p5, List.forall_mem_cons.mpr ⟨lw_p6, List.forall_mem_cons.mpr ⟨lw_p7, List.forall_mem_cons.mpr ⟨lw_p8, List.forall_mem_cons.mpr ⟨lw_p9, List.forall_mem_cons.mpr ⟨lw_p10, List.forall_mem_cons.mpr ⟨lw_p11, List.forall_mem_cons.mpr ⟨lw_p12, List.forall_mem_cons.mpr ⟨lw_p13, List.forall_mem_cons.mpr ⟨lw_p14, List.forall_mem_cons.mpr ⟨lw_p15, fun _ h => absurd h List.not_mem_nil⟩⟩⟩⟩⟩⟩⟩⟩⟩⟩⟩⟩⟩⟩⟩⟩
theorem lw_p16 : lw_okq (⟨"CutoffMill$Works", "wasInOtherRing", "(I)Z"⟩, 8) := ⟨⟨by decide +kernel, by decide +kernel⟩, List.mem_of_getElem? (i := 130) (by decide +kernel), List.mem_of_getElem? (i := 522) (by decide +kernel), List.mem_of_getElem? (i := 523) (by decide +kernel)⟩
theorem lw_p17 : lw_okq (⟨"CutoffMill$Works", "firstOtherText", "(LCutoffMill$Result;)I"⟩, 8) := ⟨⟨by decide +kernel, by decide +kernel⟩, List.mem_of_getElem? (i := 130) (by decide +kernel), List.mem_of_getElem? (i := 533) (by decide +kernel), List.mem_of_getElem? (i := 534) (by decide +kernel)⟩
theorem lw_p18 : lw_okq (⟨"CutoffMill$Works", "answerTo", "(II)J"⟩, 8) := ⟨⟨by decide +kernel, by decide +kernel⟩, List.mem_of_getElem? (i := 130) (by decide +kernel), List.mem_of_getElem? (i := 547) (by decide +kernel), List.mem_of_getElem? (i := 548) (by decide +kernel)⟩
theorem lw_p19 : lw_okq (⟨"CutoffMill$Works", "placeInStore", "(I)I"⟩, 8) := ⟨⟨by decide +kernel, by decide +kernel⟩, List.mem_of_getElem? (i := 130) (by decide +kernel), List.mem_of_getElem? (i := 555) (by decide +kernel), List.mem_of_getElem? (i := 556) (by decide +kernel)⟩
theorem lw_p20 : lw_okq (⟨"CutoffMill$Store", "takeOut", "(I)V"⟩, 2) := ⟨⟨by decide +kernel, by decide +kernel⟩, List.mem_of_getElem? (i := 138) (by decide +kernel), List.mem_of_getElem? (i := 563) (by decide +kernel), List.mem_of_getElem? (i := 564) (by decide +kernel)⟩
theorem lw_p21 : lw_okq (⟨"CutoffMill$Works", "freeResult", "()LCutoffMill$Result;"⟩, 8) := ⟨⟨by decide +kernel, by decide +kernel⟩, List.mem_of_getElem? (i := 130) (by decide +kernel), List.mem_of_getElem? (i := 571) (by decide +kernel), List.mem_of_getElem? (i := 572) (by decide +kernel)⟩
theorem lw_p22 : lw_okq (⟨"CutoffMill$Works", "isHeld", "(LCutoffMill$Result;)Z"⟩, 8) := ⟨⟨by decide +kernel, by decide +kernel⟩, List.mem_of_getElem? (i := 130) (by decide +kernel), List.mem_of_getElem? (i := 575) (by decide +kernel), List.mem_of_getElem? (i := 576) (by decide +kernel)⟩
theorem lw_p23 : lw_okq (⟨"CutoffMill$Works", "noteAnswers", "(LCutoffMill$Result;)V"⟩, 8) := ⟨⟨by decide +kernel, by decide +kernel⟩, List.mem_of_getElem? (i := 130) (by decide +kernel), List.mem_of_getElem? (i := 598) (by decide +kernel), List.mem_of_getElem? (i := 599) (by decide +kernel)⟩
theorem lw_p24 : lw_okq (⟨"CutoffMill$Maker", "findMembers", "(LCutoffMill$Result;)V"⟩, 8) := ⟨⟨by decide +kernel, by decide +kernel⟩, List.mem_of_getElem? (i := 223) (by decide +kernel), List.mem_of_getElem? (i := 611) (by decide +kernel), List.mem_of_getElem? (i := 612) (by decide +kernel)⟩
theorem lw_p25 : lw_okq (⟨"CutoffMill$Maker", "targetOf", "(II)I"⟩, 8) := ⟨⟨by decide +kernel, by decide +kernel⟩, List.mem_of_getElem? (i := 223) (by decide +kernel), List.mem_of_getElem? (i := 620) (by decide +kernel), List.mem_of_getElem? (i := 621) (by decide +kernel)⟩
theorem lw_p26 : lw_okq (⟨"CutoffMill$Maker", "findDirectFaults", "(LCutoffMill$Result;)V"⟩, 8) := ⟨⟨by decide +kernel, by decide +kernel⟩, List.mem_of_getElem? (i := 223) (by decide +kernel), List.mem_of_getElem? (i := 624) (by decide +kernel), List.mem_of_getElem? (i := 625) (by decide +kernel)⟩
theorem lw_p27 : lw_okq (⟨"CutoffMill$Maker", "directFault", "(IZ)I"⟩, 8) := ⟨⟨by decide +kernel, by decide +kernel⟩, List.mem_of_getElem? (i := 223) (by decide +kernel), List.mem_of_getElem? (i := 631) (by decide +kernel), List.mem_of_getElem? (i := 632) (by decide +kernel)⟩
theorem lw_p28 : lw_okq (⟨"CutoffMill$Maker", "comesBack", "(I)Z"⟩, 8) := ⟨⟨by decide +kernel, by decide +kernel⟩, List.mem_of_getElem? (i := 223) (by decide +kernel), List.mem_of_getElem? (i := 635) (by decide +kernel), List.mem_of_getElem? (i := 636) (by decide +kernel)⟩
theorem lw_p29 : lw_okq (⟨"CutoffMill$Maker", "spreadFaults", "(LCutoffMill$Result;)V"⟩, 8) := ⟨⟨by decide +kernel, by decide +kernel⟩, List.mem_of_getElem? (i := 223) (by decide +kernel), List.mem_of_getElem? (i := 639) (by decide +kernel), List.mem_of_getElem? (i := 640) (by decide +kernel)⟩
theorem lw_p30 : lw_okq (⟨"CutoffMill$Maker", "isFaulty", "(I)Z"⟩, 8) := ⟨⟨by decide +kernel, by decide +kernel⟩, List.mem_of_getElem? (i := 223) (by decide +kernel), List.mem_of_getElem? (i := 643) (by decide +kernel), List.mem_of_getElem? (i := 644) (by decide +kernel)⟩
theorem lw_p31 : lw_okq (⟨"CutoffMill$Maker", "findPlain", "(LCutoffMill$Result;)V"⟩, 8) := ⟨⟨by decide +kernel, by decide +kernel⟩, List.mem_of_getElem? (i := 223) (by decide +kernel), List.mem_of_getElem? (i := 647) (by decide +kernel), List.mem_of_getElem? (i := 648) (by decide +kernel)⟩
def lw_privs_2 : List (MethodName × Nat) := [(⟨"CutoffMill$Works", "wasInOtherRing", "(I)Z"⟩, 8), (⟨"CutoffMill$Works", "firstOtherText", "(LCutoffMill$Result;)I"⟩, 8), (⟨"CutoffMill$Works", "answerTo", "(II)J"⟩, 8), (⟨"CutoffMill$Works", "placeInStore", "(I)I"⟩, 8), (⟨"CutoffMill$Store", "takeOut", "(I)V"⟩, 2), (⟨"CutoffMill$Works", "freeResult", "()LCutoffMill$Result;"⟩, 8), (⟨"CutoffMill$Works", "isHeld", "(LCutoffMill$Result;)Z"⟩, 8), (⟨"CutoffMill$Works", "noteAnswers", "(LCutoffMill$Result;)V"⟩, 8), (⟨"CutoffMill$Maker", "findMembers", "(LCutoffMill$Result;)V"⟩, 8), (⟨"CutoffMill$Maker", "targetOf", "(II)I"⟩, 8), (⟨"CutoffMill$Maker", "findDirectFaults", "(LCutoffMill$Result;)V"⟩, 8), (⟨"CutoffMill$Maker", "directFault", "(IZ)I"⟩, 8), (⟨"CutoffMill$Maker", "comesBack", "(I)Z"⟩, 8), (⟨"CutoffMill$Maker", "spreadFaults", "(LCutoffMill$Result;)V"⟩, 8), (⟨"CutoffMill$Maker", "isFaulty", "(I)Z"⟩, 8), (⟨"CutoffMill$Maker", "findPlain", "(LCutoffMill$Result;)V"⟩, 8)]
theorem lw_r2 : ∀ q ∈ lw_privs_2, lw_okq q := List.forall_mem_cons.mpr ⟨lw_p16, List.forall_mem_cons.mpr ⟨lw_p17, List.forall_mem_cons.mpr ⟨lw_p18, List.forall_mem_cons.mpr ⟨lw_p19, List.forall_mem_cons.mpr ⟨lw_p20, List.forall_mem_cons.mpr ⟨lw_p21, List.forall_mem_cons.mpr ⟨lw_p22, List.forall_mem_cons.mpr ⟨lw_p23, List.forall_mem_cons.mpr ⟨lw_p24, List.forall_mem_cons.mpr ⟨lw_p25, List.forall_mem_cons.mpr ⟨lw_p26, List.forall_mem_cons.mpr ⟨lw_p27, List.forall_mem_cons.mpr ⟨lw_p28, List.forall_mem_cons.mpr ⟨lw_p29, List.forall_mem_cons.mpr ⟨lw_p30, List.forall_mem_cons.mpr ⟨lw_p31, fun _ h => absurd h List.not_mem_nil⟩⟩⟩⟩⟩⟩⟩⟩⟩⟩⟩⟩⟩⟩⟩⟩
theorem lw_p32 : lw_okq (⟨"CutoffMill$Maker", "isNoCall", "(I)Z"⟩, 8) := ⟨⟨by decide +kernel, by decide +kernel⟩, List.mem_of_getElem? (i := 223) (by decide +kernel), List.mem_of_getElem? (i := 651) (by decide +kernel), List.mem_of_getElem? (i := 652) (by decide +kernel)⟩
theorem lw_p33 : lw_okq (⟨"CutoffMill$Maker", "numberWithTargets", "(LCutoffMill$Result;I)I"⟩, 8) := ⟨⟨by decide +kernel, by decide +kernel⟩, List.mem_of_getElem? (i := 223) (by decide +kernel), List.mem_of_getElem? (i := 655) (by decide +kernel), List.mem_of_getElem? (i := 656) (by decide +kernel)⟩
theorem lw_p34 : lw_okq (⟨"CutoffMill$Maker", "findCalls", "(LCutoffMill$Result;)V"⟩, 8) := ⟨⟨by decide +kernel, by decide +kernel⟩, List.mem_of_getElem? (i := 223) (by decide +kernel), List.mem_of_getElem? (i := 662) (by decide +kernel), List.mem_of_getElem? (i := 663) (by decide +kernel)⟩
theorem lw_p35 : lw_okq (⟨"CutoffMill$Maker", "addCall", "(LCutoffMill$Result;II)V"⟩, 8) := ⟨⟨by decide +kernel, by decide +kernel⟩, List.mem_of_getElem? (i := 223) (by decide +kernel), List.mem_of_getElem? (i := 666) (by decide +kernel), List.mem_of_getElem? (i := 667) (by decide +kernel)⟩
theorem lw_p36 : lw_okq (⟨"CutoffMill$Maker", "tellAnswers", "(LCutoffMill$Result;)V"⟩, 8) := ⟨⟨by decide +kernel, by decide +kernel⟩, List.mem_of_getElem? (i := 223) (by decide +kernel), List.mem_of_getElem? (i := 670) (by decide +kernel), List.mem_of_getElem? (i := 671) (by decide +kernel)⟩
theorem lw_p37 : lw_okq (⟨"CutoffMill", "countRenewal", "(IZ)V"⟩, 11) := ⟨⟨by decide +kernel, by decide +kernel⟩, List.mem_of_getElem? (i := 22) (by decide +kernel), List.mem_of_getElem? (i := 676) (by decide +kernel), List.mem_of_getElem? (i := 677) (by decide +kernel)⟩
theorem lw_p38 : lw_okq (⟨"CutoffMill", "checkModule", "(I)V"⟩, 11) := ⟨⟨by decide +kernel, by decide +kernel⟩, List.mem_of_getElem? (i := 22) (by decide +kernel), List.mem_of_getElem? (i := 685) (by decide +kernel), List.mem_of_getElem? (i := 686) (by decide +kernel)⟩
theorem lw_p39 : lw_okq (⟨"CutoffMill", "valueOf", "(I)I"⟩, 11) := ⟨⟨by decide +kernel, by decide +kernel⟩, List.mem_of_getElem? (i := 22) (by decide +kernel), List.mem_of_getElem? (i := 705) (by decide +kernel), List.mem_of_getElem? (i := 706) (by decide +kernel)⟩
theorem lw_p40 : lw_okq (⟨"CutoffMill", "openCall", "(III)I"⟩, 11) := ⟨⟨by decide +kernel, by decide +kernel⟩, List.mem_of_getElem? (i := 22) (by decide +kernel), List.mem_of_getElem? (i := 714) (by decide +kernel), List.mem_of_getElem? (i := 715) (by decide +kernel)⟩
theorem lw_p41 : lw_okq (⟨"CutoffMill$Works", "staleModules", "()I"⟩, 8) := ⟨⟨by decide +kernel, by decide +kernel⟩, List.mem_of_getElem? (i := 130) (by decide +kernel), List.mem_of_getElem? (i := 780) (by decide +kernel), List.mem_of_getElem? (i := 781) (by decide +kernel)⟩
theorem lw_p42 : lw_okq (⟨"CutoffMill", "digestOfModule", "(JI)J"⟩, 11) := ⟨⟨by decide +kernel, by decide +kernel⟩, List.mem_of_getElem? (i := 22) (by decide +kernel), List.mem_of_getElem? (i := 795) (by decide +kernel), List.mem_of_getElem? (i := 796) (by decide +kernel)⟩
theorem lw_p43 : lw_okq (⟨"CutoffMill", "digestOfName", "(JII)J"⟩, 11) := ⟨⟨by decide +kernel, by decide +kernel⟩, List.mem_of_getElem? (i := 22) (by decide +kernel), List.mem_of_getElem? (i := 828) (by decide +kernel), List.mem_of_getElem? (i := 829) (by decide +kernel)⟩
theorem lw_p44 : lw_okq (⟨"CutoffMill", "slotOfFault", "(I)I"⟩, 11) := ⟨⟨by decide +kernel, by decide +kernel⟩, List.mem_of_getElem? (i := 22) (by decide +kernel), List.mem_of_getElem? (i := 856) (by decide +kernel), List.mem_of_getElem? (i := 857) (by decide +kernel)⟩
def lw_privs_3 : List (MethodName × Nat) := [(⟨"CutoffMill$Maker", "isNoCall", "(I)Z"⟩, 8), (⟨"CutoffMill$Maker", "numberWithTargets", "(LCutoffMill$Result;I)I"⟩, 8), (⟨"CutoffMill$Maker", "findCalls", "(LCutoffMill$Result;)V"⟩, 8), (⟨"CutoffMill$Maker", "addCall", "(LCutoffMill$Result;II)V"⟩, 8), (⟨"CutoffMill$Maker", "tellAnswers", "(LCutoffMill$Result;)V"⟩, 8), (⟨"CutoffMill", "countRenewal", "(IZ)V"⟩, 11), (⟨"CutoffMill", "checkModule", "(I)V"⟩, 11), (⟨"CutoffMill", "valueOf", "(I)I"⟩, 11), (⟨"CutoffMill", "openCall", "(III)I"⟩, 11), (⟨"CutoffMill$Works", "staleModules", "()I"⟩, 8), (⟨"CutoffMill", "digestOfModule", "(JI)J"⟩, 11), (⟨"CutoffMill", "digestOfName", "(JII)J"⟩, 11), (⟨"CutoffMill", "slotOfFault", "(I)I"⟩, 11)]
theorem lw_r3 : ∀ q ∈ lw_privs_3, lw_okq q := List.forall_mem_cons.mpr ⟨lw_p32, List.forall_mem_cons.mpr ⟨lw_p33, List.forall_mem_cons.mpr ⟨lw_p34, List.forall_mem_cons.mpr ⟨lw_p35, List.forall_mem_cons.mpr ⟨lw_p36, List.forall_mem_cons.mpr ⟨lw_p37, List.forall_mem_cons.mpr ⟨lw_p38, List.forall_mem_cons.mpr ⟨lw_p39, List.forall_mem_cons.mpr ⟨lw_p40, List.forall_mem_cons.mpr ⟨lw_p41, List.forall_mem_cons.mpr ⟨lw_p42, List.forall_mem_cons.mpr ⟨lw_p43, List.forall_mem_cons.mpr ⟨lw_p44, fun _ h => absurd h List.not_mem_nil⟩⟩⟩⟩⟩⟩⟩⟩⟩⟩⟩⟩⟩
def lw_privs : List (MethodName × Nat) := lw_privs_1 ++ (lw_privs_2 ++ (lw_privs_3))
def lw_tbl : List Cond := k2_sels lw_privs ++ tables_1
theorem lw_privs_ok : ∀ q ∈ lw_privs, lw_okq q := by
  show ∀ q ∈ lw_privs_1 ++ (lw_privs_2 ++ (lw_privs_3)), lw_okq q
  exact List.forall_mem_append.mpr ⟨lw_r1, List.forall_mem_append.mpr ⟨lw_r2, lw_r3⟩⟩
-- ===== end of PART A; then your names; then what follows =====
theorem goodIn_r {big : List Cond} (ws : List Cond) (ps : List Nat) (hp : ws = ps.filterMap (fun i => big[i]?)) (h : ws.all goodWord = true) : GoodIn big ws := by
  intro w hw
  have h1 := List.all_eq_true.mp h w hw
  rw [hp] at hw
  obtain ⟨i, -, hi⟩ := List.mem_filterMap.mp hw
  have hm : w ∈ big := by first | exact List.mem_of_getElem? hi | exact List.getElem?_mem hi
  exact ⟨hm, good_of_word h1⟩
theorem goodIn_app {big a b : List Cond} (ha : GoodIn big a) (hb : GoodIn big b) : GoodIn big (a ++ b) := fun w h => (List.mem_append.mp h).elim (ha w) (hb w)
theorem goodIn_ca {big a b : List Cond} {c : Cond} (ha : GoodIn big (c :: a)) (hb : GoodIn big b) : GoodIn big (c :: (a ++ b)) := fun w h => (List.mem_cons.mp h).elim (fun e => ha w (List.mem_cons.mpr (Or.inl e))) (fun h => (List.mem_append.mp h).elim (fun h => ha w (List.mem_cons.mpr (Or.inr h))) (hb w))
theorem goodIn_sub {big ws : List Cond} (hm : ∀ w ∈ ws, w ∈ big) (h : ws.all goodWord = true) : GoodIn big ws := fun w hw => ⟨hm w hw, good_of_word (List.all_eq_true.mp h w hw)⟩
def RX0 : String := "CutoffMill$Answer"
def TX0 : u_T := fun k => match k with
  | _ => ("", "", "", false)
def tyX0 : Nat → FieldType := fun k => match k with
  | _ => .int
abbrev wsX00 : List Cond := u_ws RX0 TX0 0
theorem nmX0 : ∀ a, a < 0 → ∀ b, b < 0 → a ≠ b → (TX0 a).2.1 ≠ (TX0 b).2.1 := by decide +kernel
theorem tyX0_ok : ∀ k, k < 0 → parseFieldDescriptor (TX0 k).2.2.1 = some (tyX0 k) := by decide +kernel
abbrev cX0_of : ByteArray := prog_2_method_2_code
def yX0_of : MethodName := ⟨RX0, "of", "(IZZZI)J"⟩
abbrev cX0_trait : ByteArray := prog_2_method_3_code
def yX0_trait : MethodName := ⟨RX0, "trait", "(JI)I"⟩
def RX1 : String := "CutoffMill$Declaration"
def TX1 : u_T := fun k => match k with
  | _ => ("", "", "", false)
def tyX1 : Nat → FieldType := fun k => match k with
  | _ => .int
abbrev wsX10 : List Cond := u_ws RX1 TX1 0
theorem nmX1 : ∀ a, a < 0 → ∀ b, b < 0 → a ≠ b → (TX1 a).2.1 ≠ (TX1 b).2.1 := by decide +kernel
theorem tyX1_ok : ∀ k, k < 0 → parseFieldDescriptor (TX1 k).2.2.1 = some (tyX1 k) := by decide +kernel
abbrev cX1_of : ByteArray := prog_3_method_2_code
def yX1_of : MethodName := ⟨RX1, "of", "(IZIII)I"⟩
abbrev cX1_withNumber : ByteArray := prog_3_method_3_code
def yX1_withNumber : MethodName := ⟨RX1, "withNumber", "(II)I"⟩
abbrev cX1_isProcedure : ByteArray := prog_3_method_4_code
def yX1_isProcedure : MethodName := ⟨RX1, "isProcedure", "(I)Z"⟩
abbrev cX1_isPublic : ByteArray := prog_3_method_5_code
def yX1_isPublic : MethodName := ⟨RX1, "isPublic", "(I)Z"⟩
abbrev cX1_numberOf : ByteArray := prog_3_method_6_code
def yX1_numberOf : MethodName := ⟨RX1, "numberOf", "(I)I"⟩
abbrev cX1_reference : ByteArray := prog_3_method_7_code
def yX1_reference : MethodName := ⟨RX1, "reference", "(II)I"⟩
def RX2 : String := "CutoffMill$Import"
def TX2 : u_T := fun k => match k with
  | _ => ("", "", "", false)
def tyX2 : Nat → FieldType := fun k => match k with
  | _ => .int
abbrev wsX20 : List Cond := u_ws RX2 TX2 0
theorem nmX2 : ∀ a, a < 0 → ∀ b, b < 0 → a ≠ b → (TX2 a).2.1 ≠ (TX2 b).2.1 := by decide +kernel
theorem tyX2_ok : ∀ k, k < 0 → parseFieldDescriptor (TX2 k).2.2.1 = some (tyX2 k) := by decide +kernel
abbrev cX2_of : ByteArray := prog_4_method_2_code
def yX2_of : MethodName := ⟨RX2, "of", "(IIIZ)I"⟩
abbrev cX2_isOfAll : ByteArray := prog_4_method_3_code
def yX2_isOfAll : MethodName := ⟨RX2, "isOfAll", "(I)Z"⟩
abbrev cX2_isAgain : ByteArray := prog_4_method_4_code
def yX2_isAgain : MethodName := ⟨RX2, "isAgain", "(I)Z"⟩
abbrev cX2_from : ByteArray := prog_4_method_5_code
def yX2_from : MethodName := ⟨RX2, "from", "(I)I"⟩
abbrev cX2_under : ByteArray := prog_4_method_6_code
def yX2_under : MethodName := ⟨RX2, "under", "(I)I"⟩
abbrev cX2_source : ByteArray := prog_4_method_7_code
def yX2_source : MethodName := ⟨RX2, "source", "(I)I"⟩
def RX3 : String := "CutoffMill$Maker"
def TX3 : u_T := fun k => match k with
  | 0 => ("CutoffMill$Maker", "names", "LCutoffMill$Names;", true)
  | 1 => ("CutoffMill$Maker", "states", "[LCutoffMill$Result;", true)
  | 2 => ("CutoffMill$Maker", "members", "[I", true)
  | 3 => ("CutoffMill$Maker", "memberCount", "I", false)
  | 4 => ("CutoffMill$Maker", "targets", "[I", true)
  | 5 => ("CutoffMill$Maker", "isLink", "[Z", true)
  | 6 => ("CutoffMill$Maker", "walk", "[I", true)
  | _ => ("CutoffMill$Maker", "isWalked", "[Z", true)
def tyX3 : Nat → FieldType := fun k => match k with
  | 0 => .object "CutoffMill$Names"
  | 1 => .array (.object "CutoffMill$Result")
  | 2 => .array .int
  | 3 => .int
  | 4 => .array .int
  | 5 => .array .boolean
  | 6 => .array .int
  | _ => .array .boolean
abbrev wsX30 : List Cond := u_ws RX3 TX3 8
theorem nmX3 : ∀ a, a < 8 → ∀ b, b < 8 → a ≠ b → (TX3 a).2.1 ≠ (TX3 b).2.1 := by decide +kernel
theorem tyX3_ok : ∀ k, k < 8 → parseFieldDescriptor (TX3 k).2.2.1 = some (tyX3 k) := by decide +kernel
abbrev cX3_init : ByteArray := prog_5_method_1_code
def yX3_init : MethodName := ⟨RX3, "<init>", "(LCutoffMill$Names;)V"⟩
abbrev cX3_makeStates : ByteArray := prog_5_method_2_code
def yX3_makeStates : MethodName := ⟨RX3, "makeStates", "(LCutoffMill$Result;[LCutoffMill$Result;)V"⟩
abbrev cX3_findMembers : ByteArray := prog_5_method_3_code
def yX3_findMembers : MethodName := ⟨RX3, "findMembers", "(LCutoffMill$Result;)V"⟩
abbrev cX3_targetOf : ByteArray := prog_5_method_4_code
def yX3_targetOf : MethodName := ⟨RX3, "targetOf", "(II)I"⟩
abbrev cX3_findDirectFaults : ByteArray := prog_5_method_5_code
def yX3_findDirectFaults : MethodName := ⟨RX3, "findDirectFaults", "(LCutoffMill$Result;)V"⟩
abbrev cX3_directFault : ByteArray := prog_5_method_6_code
def yX3_directFault : MethodName := ⟨RX3, "directFault", "(IZ)I"⟩
abbrev cX3_comesBack : ByteArray := prog_5_method_7_code
def yX3_comesBack : MethodName := ⟨RX3, "comesBack", "(I)Z"⟩
abbrev cX3_spreadFaults : ByteArray := prog_5_method_8_code
def yX3_spreadFaults : MethodName := ⟨RX3, "spreadFaults", "(LCutoffMill$Result;)V"⟩
abbrev cX3_isFaulty : ByteArray := prog_5_method_9_code
def yX3_isFaulty : MethodName := ⟨RX3, "isFaulty", "(I)Z"⟩
abbrev cX3_findPlain : ByteArray := prog_5_method_10_code
def yX3_findPlain : MethodName := ⟨RX3, "findPlain", "(LCutoffMill$Result;)V"⟩
abbrev cX3_isNoCall : ByteArray := prog_5_method_11_code
def yX3_isNoCall : MethodName := ⟨RX3, "isNoCall", "(I)Z"⟩
abbrev cX3_numberWithTargets : ByteArray := prog_5_method_12_code
def yX3_numberWithTargets : MethodName := ⟨RX3, "numberWithTargets", "(LCutoffMill$Result;I)I"⟩
abbrev cX3_findCalls : ByteArray := prog_5_method_13_code
def yX3_findCalls : MethodName := ⟨RX3, "findCalls", "(LCutoffMill$Result;)V"⟩
abbrev cX3_addCall : ByteArray := prog_5_method_14_code
def yX3_addCall : MethodName := ⟨RX3, "addCall", "(LCutoffMill$Result;II)V"⟩
abbrev cX3_tellAnswers : ByteArray := prog_5_method_15_code
def yX3_tellAnswers : MethodName := ⟨RX3, "tellAnswers", "(LCutoffMill$Result;)V"⟩
def RX4 : String := "CutoffMill$Names"
def TX4 : u_T := fun k => match k with
  | 0 => ("CutoffMill$Names", "texts", "LCutoffMill$Texts;", true)
  | 1 => ("CutoffMill$Names", "outside", "[I", true)
  | 2 => ("CutoffMill$Names", "within", "[I", true)
  | 3 => ("CutoffMill$Names", "wanted", "[I", true)
  | 4 => ("CutoffMill$Names", "sources", "[I", true)
  | 5 => ("CutoffMill$Names", "sourcesAgain", "[I", true)
  | 6 => ("CutoffMill$Names", "allFrom", "[I", true)
  | _ => ("CutoffMill$Names", "allFromAgain", "[I", true)
def tyX4 : Nat → FieldType := fun k => match k with
  | 0 => .object "CutoffMill$Texts"
  | 1 => .array .int
  | 2 => .array .int
  | 3 => .array .int
  | 4 => .array .int
  | 5 => .array .int
  | 6 => .array .int
  | _ => .array .int
abbrev wsX40 : List Cond := u_ws RX4 TX4 8
theorem nmX4 : ∀ a, a < 8 → ∀ b, b < 8 → a ≠ b → (TX4 a).2.1 ≠ (TX4 b).2.1 := by decide +kernel
theorem tyX4_ok : ∀ k, k < 8 → parseFieldDescriptor (TX4 k).2.2.1 = some (tyX4 k) := by decide +kernel
abbrev cX4_init : ByteArray := prog_6_method_1_code
def yX4_init : MethodName := ⟨RX4, "<init>", "(LCutoffMill$Texts;)V"⟩
abbrev cX4_settle : ByteArray := prog_6_method_2_code
def yX4_settle : MethodName := ⟨RX4, "settle", "()V"⟩
abbrev cX4_settleImports : ByteArray := prog_6_method_3_code
def yX4_settleImports : MethodName := ⟨RX4, "settleImports", "()V"⟩
abbrev cX4_settleImport : ByteArray := prog_6_method_4_code
def yX4_settleImport : MethodName := ⟨RX4, "settleImport", "(II)V"⟩
abbrev cX4_settleOutside : ByteArray := prog_6_method_5_code
def yX4_settleOutside : MethodName := ⟨RX4, "settleOutside", "()V"⟩
abbrev cX4_lookedUp : ByteArray := prog_6_method_6_code
def yX4_lookedUp : MethodName := ⟨RX4, "lookedUp", "(I)I"⟩
abbrev cX4_broughtTo : ByteArray := prog_6_method_7_code
def yX4_broughtTo : MethodName := ⟨RX4, "broughtTo", "(III)I"⟩
abbrev cX4_joined : ByteArray := prog_6_method_8_code
def yX4_joined : MethodName := ⟨RX4, "joined", "(II)I"⟩
abbrev cX4_wantReferences : ByteArray := prog_6_method_9_code
def yX4_wantReferences : MethodName := ⟨RX4, "wantReferences", "(I)V"⟩
abbrev cX4_want : ByteArray := prog_6_method_10_code
def yX4_want : MethodName := ⟨RX4, "want", "(II)V"⟩
abbrev cX4_wantedBy : ByteArray := prog_6_method_11_code
def yX4_wantedBy : MethodName := ⟨RX4, "wantedBy", "(I)I"⟩
abbrev cX4_isWanted : ByteArray := prog_6_method_12_code
def yX4_isWanted : MethodName := ⟨RX4, "isWanted", "(II)Z"⟩
def RX5 : String := "CutoffMill$Result"
def TX5 : u_T := fun k => match k with
  | 0 => ("CutoffMill$Result", "modules", "I", false)
  | 1 => ("CutoffMill$Result", "texts", "LCutoffMill$Texts;", true)
  | 2 => ("CutoffMill$Result", "noted", "[J", true)
  | 3 => ("CutoffMill$Result", "answers", "[J", true)
  | 4 => ("CutoffMill$Result", "faults", "[I", true)
  | 5 => ("CutoffMill$Result", "isProcedure", "[Z", true)
  | 6 => ("CutoffMill$Result", "isPlain", "[Z", true)
  | 7 => ("CutoffMill$Result", "numbers", "[I", true)
  | 8 => ("CutoffMill$Result", "firstCalls", "[I", true)
  | _ => ("CutoffMill$Result", "secondCalls", "[I", true)
def tyX5 : Nat → FieldType := fun k => match k with
  | 0 => .int
  | 1 => .object "CutoffMill$Texts"
  | 2 => .array .long
  | 3 => .array .long
  | 4 => .array .int
  | 5 => .array .boolean
  | 6 => .array .boolean
  | 7 => .array .int
  | 8 => .array .int
  | _ => .array .int
abbrev wsX50 : List Cond := u_ws RX5 TX5 10
theorem nmX5 : ∀ a, a < 10 → ∀ b, b < 10 → a ≠ b → (TX5 a).2.1 ≠ (TX5 b).2.1 := by decide +kernel
theorem tyX5_ok : ∀ k, k < 10 → parseFieldDescriptor (TX5 k).2.2.1 = some (tyX5 k) := by decide +kernel
abbrev cX5_init : ByteArray := prog_7_method_1_code
def yX5_init : MethodName := ⟨RX5, "<init>", "()V"⟩
abbrev cX5_begin : ByteArray := prog_7_method_2_code
def yX5_begin : MethodName := ⟨RX5, "begin", "(ILCutoffMill$Texts;)V"⟩
abbrev cX5_setUnbuilt : ByteArray := prog_7_method_3_code
def yX5_setUnbuilt : MethodName := ⟨RX5, "setUnbuilt", "(I)V"⟩
abbrev cX5_callCount : ByteArray := prog_7_method_4_code
def yX5_callCount : MethodName := ⟨RX5, "callCount", "(I)I"⟩
def RX6 : String := "CutoffMill$Rings"
def TX6 : u_T := fun k => match k with
  | 0 => ("CutoffMill$Rings", "texts", "LCutoffMill$Texts;", true)
  | 1 => ("CutoffMill$Rings", "leansOn", "[I", true)
  | 2 => ("CutoffMill$Rings", "reach", "[I", true)
  | 3 => ("CutoffMill$Rings", "ringOf", "[I", true)
  | 4 => ("CutoffMill$Rings", "placeOf", "[I", true)
  | 5 => ("CutoffMill$Rings", "order", "[I", true)
  | _ => ("CutoffMill$Rings", "count", "I", false)
def tyX6 : Nat → FieldType := fun k => match k with
  | 0 => .object "CutoffMill$Texts"
  | 1 => .array .int
  | 2 => .array .int
  | 3 => .array .int
  | 4 => .array .int
  | 5 => .array .int
  | _ => .int
abbrev wsX60 : List Cond := u_ws RX6 TX6 7
theorem nmX6 : ∀ a, a < 7 → ∀ b, b < 7 → a ≠ b → (TX6 a).2.1 ≠ (TX6 b).2.1 := by decide +kernel
theorem tyX6_ok : ∀ k, k < 7 → parseFieldDescriptor (TX6 k).2.2.1 = some (tyX6 k) := by decide +kernel
abbrev cX6_init : ByteArray := prog_8_method_1_code
def yX6_init : MethodName := ⟨RX6, "<init>", "(LCutoffMill$Texts;)V"⟩
abbrev cX6_has : ByteArray := prog_8_method_2_code
def yX6_has : MethodName := ⟨RX6, "has", "(II)Z"⟩
abbrev cX6_smallestOf : ByteArray := prog_8_method_3_code
def yX6_smallestOf : MethodName := ⟨RX6, "smallestOf", "(I)I"⟩
abbrev cX6_settle : ByteArray := prog_8_method_4_code
def yX6_settle : MethodName := ⟨RX6, "settle", "()V"⟩
abbrev cX6_settleLeaning : ByteArray := prog_8_method_5_code
def yX6_settleLeaning : MethodName := ⟨RX6, "settleLeaning", "()V"⟩
abbrev cX6_ringAround : ByteArray := prog_8_method_6_code
def yX6_ringAround : MethodName := ⟨RX6, "ringAround", "(I)I"⟩
abbrev cX6_settleOrder : ByteArray := prog_8_method_7_code
def yX6_settleOrder : MethodName := ⟨RX6, "settleOrder", "()V"⟩
abbrev cX6_nextBehind : ByteArray := prog_8_method_8_code
def yX6_nextBehind : MethodName := ⟨RX6, "nextBehind", "(I)I"⟩
abbrev cX6_placeModules : ByteArray := prog_8_method_9_code
def yX6_placeModules : MethodName := ⟨RX6, "placeModules", "(II)V"⟩
def RX7 : String := "CutoffMill$Store"
def TX7 : u_T := fun k => match k with
  | 0 => ("CutoffMill$Store", "kept", "[LCutoffMill$Result;", true)
  | _ => ("CutoffMill$Store", "count", "I", false)
def tyX7 : Nat → FieldType := fun k => match k with
  | 0 => .array (.object "CutoffMill$Result")
  | _ => .int
abbrev wsX70 : List Cond := u_ws RX7 TX7 2
theorem nmX7 : ∀ a, a < 2 → ∀ b, b < 2 → a ≠ b → (TX7 a).2.1 ≠ (TX7 b).2.1 := by decide +kernel
theorem tyX7_ok : ∀ k, k < 2 → parseFieldDescriptor (TX7 k).2.2.1 = some (tyX7 k) := by decide +kernel
abbrev cX7_init : ByteArray := prog_9_method_1_code
def yX7_init : MethodName := ⟨RX7, "<init>", "(I)V"⟩
abbrev cX7_holds : ByteArray := prog_9_method_2_code
def yX7_holds : MethodName := ⟨RX7, "holds", "(LCutoffMill$Result;)Z"⟩
abbrev cX7_put : ByteArray := prog_9_method_3_code
def yX7_put : MethodName := ⟨RX7, "put", "(LCutoffMill$Result;)V"⟩
abbrev cX7_makeNewest : ByteArray := prog_9_method_4_code
def yX7_makeNewest : MethodName := ⟨RX7, "makeNewest", "(I)V"⟩
abbrev cX7_takeOut : ByteArray := prog_9_method_5_code
def yX7_takeOut : MethodName := ⟨RX7, "takeOut", "(I)V"⟩
def RX8 : String := "CutoffMill$Texts"
def TX8 : u_T := fun k => match k with
  | 0 => ("CutoffMill$Texts", "declarations", "[I", true)
  | 1 => ("CutoffMill$Texts", "imports", "[I", true)
  | 2 => ("CutoffMill$Texts", "importCounts", "[I", true)
  | _ => ("CutoffMill$Texts", "moduleCount", "I", false)
def tyX8 : Nat → FieldType := fun k => match k with
  | 0 => .array .int
  | 1 => .array .int
  | 2 => .array .int
  | _ => .int
abbrev wsX80 : List Cond := u_ws RX8 TX8 4
theorem nmX8 : ∀ a, a < 4 → ∀ b, b < 4 → a ≠ b → (TX8 a).2.1 ≠ (TX8 b).2.1 := by decide +kernel
theorem tyX8_ok : ∀ k, k < 4 → parseFieldDescriptor (TX8 k).2.2.1 = some (tyX8 k) := by decide +kernel
abbrev cX8_init : ByteArray := prog_10_method_1_code
def yX8_init : MethodName := ⟨RX8, "<init>", "()V"⟩
abbrev cX8_isDeclared : ByteArray := prog_10_method_2_code
def yX8_isDeclared : MethodName := ⟨RX8, "isDeclared", "(I)Z"⟩
abbrev cX8_declarationsOf : ByteArray := prog_10_method_3_code
def yX8_declarationsOf : MethodName := ⟨RX8, "declarationsOf", "(I)I"⟩
abbrev cX8_allDeclarations : ByteArray := prog_10_method_4_code
def yX8_allDeclarations : MethodName := ⟨RX8, "allDeclarations", "()I"⟩
abbrev cX8_allImports : ByteArray := prog_10_method_5_code
def yX8_allImports : MethodName := ⟨RX8, "allImports", "()I"⟩
abbrev cX8_importAt : ByteArray := prog_10_method_6_code
def yX8_importAt : MethodName := ⟨RX8, "importAt", "(II)I"⟩
abbrev cX8_addImport : ByteArray := prog_10_method_7_code
def yX8_addImport : MethodName := ⟨RX8, "addImport", "(II)V"⟩
abbrev cX8_removeImport : ByteArray := prog_10_method_8_code
def yX8_removeImport : MethodName := ⟨RX8, "removeImport", "(II)V"⟩
abbrev cX8_isSame : ByteArray := prog_10_method_9_code
def yX8_isSame : MethodName := ⟨RX8, "isSame", "(LCutoffMill$Texts;I)Z"⟩
abbrev cX8_copy : ByteArray := prog_10_method_10_code
def yX8_copy : MethodName := ⟨RX8, "copy", "(LCutoffMill$Texts;)V"⟩
def RX9 : String := "CutoffMill$Works"
def TX9 : u_T := fun k => match k with
  | 0 => ("CutoffMill$Works", "texts", "LCutoffMill$Texts;", true)
  | 1 => ("CutoffMill$Works", "names", "LCutoffMill$Names;", true)
  | 2 => ("CutoffMill$Works", "rings", "LCutoffMill$Rings;", true)
  | 3 => ("CutoffMill$Works", "maker", "LCutoffMill$Maker;", true)
  | 4 => ("CutoffMill$Works", "store", "LCutoffMill$Store;", true)
  | 5 => ("CutoffMill$Works", "last", "[LCutoffMill$Result;", true)
  | 6 => ("CutoffMill$Works", "unbuilt", "LCutoffMill$Result;", true)
  | _ => ("CutoffMill$Works", "pool", "[LCutoffMill$Result;", true)
def tyX9 : Nat → FieldType := fun k => match k with
  | 0 => .object "CutoffMill$Texts"
  | 1 => .object "CutoffMill$Names"
  | 2 => .object "CutoffMill$Rings"
  | 3 => .object "CutoffMill$Maker"
  | 4 => .object "CutoffMill$Store"
  | 5 => .array (.object "CutoffMill$Result")
  | 6 => .object "CutoffMill$Result"
  | _ => .array (.object "CutoffMill$Result")
abbrev wsX90 : List Cond := u_ws RX9 TX9 8
theorem nmX9 : ∀ a, a < 8 → ∀ b, b < 8 → a ≠ b → (TX9 a).2.1 ≠ (TX9 b).2.1 := by decide +kernel
theorem tyX9_ok : ∀ k, k < 8 → parseFieldDescriptor (TX9 k).2.2.1 = some (tyX9 k) := by decide +kernel
abbrev cX9_init : ByteArray := prog_11_method_1_code
def yX9_init : MethodName := ⟨RX9, "<init>", "(LCutoffMill$Texts;LCutoffMill$Names;LCutoffMill$Rings;I)V"⟩
abbrev cX9_startFrom : ByteArray := prog_11_method_2_code
def yX9_startFrom : MethodName := ⟨RX9, "startFrom", "(LCutoffMill$Works;)V"⟩
abbrev cX9_stateOf : ByteArray := prog_11_method_3_code
def yX9_stateOf : MethodName := ⟨RX9, "stateOf", "(I)LCutoffMill$Result;"⟩
abbrev cX9_isFaulty : ByteArray := prog_11_method_4_code
def yX9_isFaulty : MethodName := ⟨RX9, "isFaulty", "(I)Z"⟩
abbrev cX9_faultCount : ByteArray := prog_11_method_5_code
def yX9_faultCount : MethodName := ⟨RX9, "faultCount", "()I"⟩
abbrev cX9_staleCount : ByteArray := prog_11_method_6_code
def yX9_staleCount : MethodName := ⟨RX9, "staleCount", "()I"⟩
abbrev cX9_reasonOf : ByteArray := prog_11_method_7_code
def yX9_reasonOf : MethodName := ⟨RX9, "reasonOf", "(I)I"⟩
abbrev cX9_culpritOf : ByteArray := prog_11_method_8_code
def yX9_culpritOf : MethodName := ⟨RX9, "culpritOf", "(II)I"⟩
abbrev cX9_firstUnbuilt : ByteArray := prog_11_method_9_code
def yX9_firstUnbuilt : MethodName := ⟨RX9, "firstUnbuilt", "(I)I"⟩
abbrev cX9_wasInOtherRing : ByteArray := prog_11_method_10_code
def yX9_wasInOtherRing : MethodName := ⟨RX9, "wasInOtherRing", "(I)Z"⟩
abbrev cX9_firstOtherText : ByteArray := prog_11_method_11_code
def yX9_firstOtherText : MethodName := ⟨RX9, "firstOtherText", "(LCutoffMill$Result;)I"⟩
abbrev cX9_resultOf : ByteArray := prog_11_method_12_code
def yX9_resultOf : MethodName := ⟨RX9, "resultOf", "(I)LCutoffMill$Result;"⟩
abbrev cX9_firstOtherAnswer : ByteArray := prog_11_method_13_code
def yX9_firstOtherAnswer : MethodName := ⟨RX9, "firstOtherAnswer", "(LCutoffMill$Result;)I"⟩
abbrev cX9_answerTo : ByteArray := prog_11_method_14_code
def yX9_answerTo : MethodName := ⟨RX9, "answerTo", "(II)J"⟩
abbrev cX9_renewAll : ByteArray := prog_11_method_15_code
def yX9_renewAll : MethodName := ⟨RX9, "renewAll", "()I"⟩
abbrev cX9_renewRound : ByteArray := prog_11_method_16_code
def yX9_renewRound : MethodName := ⟨RX9, "renewRound", "(I)I"⟩
abbrev cX9_staleModules : ByteArray := prog_11_method_17_code
def yX9_staleModules : MethodName := ⟨RX9, "staleModules", "()I"⟩
abbrev cX9_renew : ByteArray := prog_11_method_18_code
def yX9_renew : MethodName := ⟨RX9, "renew", "(I)Z"⟩
abbrev cX9_placeInStore : ByteArray := prog_11_method_19_code
def yX9_placeInStore : MethodName := ⟨RX9, "placeInStore", "(I)I"⟩
abbrev cX9_freeResult : ByteArray := prog_11_method_20_code
def yX9_freeResult : MethodName := ⟨RX9, "freeResult", "()LCutoffMill$Result;"⟩
abbrev cX9_isHeld : ByteArray := prog_11_method_21_code
def yX9_isHeld : MethodName := ⟨RX9, "isHeld", "(LCutoffMill$Result;)Z"⟩
abbrev cX9_noteAnswers : ByteArray := prog_11_method_22_code
def yX9_noteAnswers : MethodName := ⟨RX9, "noteAnswers", "(LCutoffMill$Result;)V"⟩
def RX10 : String := "CutoffMill"
def TX10 : u_T := fun k => match k with
  | 0 => ("CutoffMill", "texts", "LCutoffMill$Texts;", true)
  | 1 => ("CutoffMill", "names", "LCutoffMill$Names;", true)
  | 2 => ("CutoffMill", "rings", "LCutoffMill$Rings;", true)
  | 3 => ("CutoffMill", "works", "LCutoffMill$Works;", true)
  | 4 => ("CutoffMill", "trial", "LCutoffMill$Works;", true)
  | 5 => ("CutoffMill", "openCalls", "[I", true)
  | 6 => ("CutoffMill", "builtTimes", "[I", true)
  | 7 => ("CutoffMill", "fetchedTimes", "[I", true)
  | 8 => ("CutoffMill", "ringsBuilt", "I", false)
  | 9 => ("CutoffMill", "ringsFetched", "I", false)
  | _ => ("CutoffMill", "builds", "I", false)
def tyX10 : Nat → FieldType := fun k => match k with
  | 0 => .object "CutoffMill$Texts"
  | 1 => .object "CutoffMill$Names"
  | 2 => .object "CutoffMill$Rings"
  | 3 => .object "CutoffMill$Works"
  | 4 => .object "CutoffMill$Works"
  | 5 => .array .int
  | 6 => .array .int
  | 7 => .array .int
  | 8 => .int
  | 9 => .int
  | _ => .int
abbrev wsX100 : List Cond := u_ws RX10 TX10 11
theorem nmX10 : ∀ a, a < 11 → ∀ b, b < 11 → a ≠ b → (TX10 a).2.1 ≠ (TX10 b).2.1 := by decide +kernel
theorem tyX10_ok : ∀ k, k < 11 → parseFieldDescriptor (TX10 k).2.2.1 = some (tyX10 k) := by decide +kernel
abbrev cX10_init : ByteArray := prog_1_method_1_code
def yX10_init : MethodName := ⟨RX10, "<init>", "()V"⟩
abbrev cX10_module : ByteArray := prog_1_method_2_code
def yX10_module : MethodName := ⟨RX10, "module", "()I"⟩
abbrev cX10_declare : ByteArray := prog_1_method_3_code
def yX10_declare : MethodName := ⟨RX10, "declare", "(IIIZIII)I"⟩
abbrev cX10_drop : ByteArray := prog_1_method_4_code
def yX10_drop : MethodName := ⟨RX10, "drop", "(II)Z"⟩
abbrev cX10_bring : ByteArray := prog_1_method_5_code
def yX10_bring : MethodName := ⟨RX10, "bring", "(IIIIZ)I"⟩
abbrev cX10_leave : ByteArray := prog_1_method_6_code
def yX10_leave : MethodName := ⟨RX10, "leave", "(II)I"⟩
abbrev cX10_ofModule : ByteArray := prog_1_method_7_code
def yX10_ofModule : MethodName := ⟨RX10, "ofModule", "(II)I"⟩
abbrev cX10_within : ByteArray := prog_1_method_8_code
def yX10_within : MethodName := ⟨RX10, "within", "(III)I"⟩
abbrev cX10_outside : ByteArray := prog_1_method_9_code
def yX10_outside : MethodName := ⟨RX10, "outside", "(III)I"⟩
abbrev cX10_build : ByteArray := prog_1_method_10_code
def yX10_build : MethodName := ⟨RX10, "build", "(I)I"⟩
abbrev cX10_why : ByteArray := prog_1_method_11_code
def yX10_why : MethodName := ⟨RX10, "why", "(II)I"⟩
abbrev cX10_built : ByteArray := prog_1_method_12_code
def yX10_built : MethodName := ⟨RX10, "built", "(III)I"⟩
abbrev cX10_fault : ByteArray := prog_1_method_13_code
def yX10_fault : MethodName := ⟨RX10, "fault", "(II)I"⟩
abbrev cX10_run : ByteArray := prog_1_method_14_code
def yX10_run : MethodName := ⟨RX10, "run", "(II)I"⟩
abbrev cX10_many : ByteArray := prog_1_method_15_code
def yX10_many : MethodName := ⟨RX10, "many", "(I)I"⟩
abbrev cX10_wouldBuild : ByteArray := prog_1_method_17_code
def yX10_wouldBuild : MethodName := ⟨RX10, "wouldBuild", "()I"⟩
abbrev cX10_builtBy : ByteArray := prog_1_method_18_code
def yX10_builtBy : MethodName := ⟨RX10, "builtBy", "(III)I"⟩
abbrev cX10_rounds : ByteArray := prog_1_method_19_code
def yX10_rounds : MethodName := ⟨RX10, "rounds", "(I)I"⟩
abbrev cX10_isAsNew : ByteArray := prog_1_method_20_code
def yX10_isAsNew : MethodName := ⟨RX10, "isAsNew", "()Z"⟩
abbrev cX10_digest : ByteArray := prog_1_method_21_code
def yX10_digest : MethodName := ⟨RX10, "digest", "()J"⟩
abbrev cX10_digestOfModule : ByteArray := prog_1_method_22_code
def yX10_digestOfModule : MethodName := ⟨RX10, "digestOfModule", "(JI)J"⟩
abbrev cX10_digestOfName : ByteArray := prog_1_method_23_code
def yX10_digestOfName : MethodName := ⟨RX10, "digestOfName", "(JII)J"⟩
abbrev cX10_checkModule : ByteArray := prog_1_method_24_code
def yX10_checkModule : MethodName := ⟨RX10, "checkModule", "(I)V"⟩
abbrev cX10_checkWithin : ByteArray := prog_1_method_25_code
def yX10_checkWithin : MethodName := ⟨RX10, "checkWithin", "(III)V"⟩
abbrev cX10_settle : ByteArray := prog_1_method_26_code
def yX10_settle : MethodName := ⟨RX10, "settle", "()V"⟩
abbrev cX10_clear : ByteArray := prog_1_method_27_code
def yX10_clear : MethodName := ⟨RX10, "clear", "([Z)V"⟩
abbrev cX10_partOf : ByteArray := prog_1_method_28_code
def yX10_partOf : MethodName := ⟨RX10, "partOf", "(II)I"⟩
abbrev cX10_countRenewal : ByteArray := prog_1_method_29_code
def yX10_countRenewal : MethodName := ⟨RX10, "countRenewal", "(IZ)V"⟩
abbrev cX10_slotOfFault : ByteArray := prog_1_method_30_code
def yX10_slotOfFault : MethodName := ⟨RX10, "slotOfFault", "(I)I"⟩
abbrev cX10_valueOf : ByteArray := prog_1_method_31_code
def yX10_valueOf : MethodName := ⟨RX10, "valueOf", "(I)I"⟩
abbrev cX10_openCall : ByteArray := prog_1_method_32_code
def yX10_openCall : MethodName := ⟨RX10, "openCall", "(III)I"⟩
def RX11 : String := "CutoffMillModel$Declaration"
def TX11 : u_T := fun k => match k with
  | _ => ("", "", "", false)
def tyX11 : Nat → FieldType := fun k => match k with
  | _ => .int
abbrev wsX110 : List Cond := u_ws RX11 TX11 0
theorem nmX11 : ∀ a, a < 0 → ∀ b, b < 0 → a ≠ b → (TX11 a).2.1 ≠ (TX11 b).2.1 := by decide +kernel
theorem tyX11_ok : ∀ k, k < 0 → parseFieldDescriptor (TX11 k).2.2.1 = some (tyX11 k) := by decide +kernel
def RX12 : String := "CutoffMillModel$Import"
def TX12 : u_T := fun k => match k with
  | _ => ("", "", "", false)
def tyX12 : Nat → FieldType := fun k => match k with
  | _ => .int
abbrev wsX120 : List Cond := u_ws RX12 TX12 0
theorem nmX12 : ∀ a, a < 0 → ∀ b, b < 0 → a ≠ b → (TX12 a).2.1 ≠ (TX12 b).2.1 := by decide +kernel
theorem tyX12_ok : ∀ k, k < 0 → parseFieldDescriptor (TX12 k).2.2.1 = some (tyX12 k) := by decide +kernel
def RX13 : String := "CutoffMillModel$Maker"
def TX13 : u_T := fun k => match k with
  | _ => ("", "", "", false)
def tyX13 : Nat → FieldType := fun k => match k with
  | _ => .int
abbrev wsX130 : List Cond := u_ws RX13 TX13 0
theorem nmX13 : ∀ a, a < 0 → ∀ b, b < 0 → a ≠ b → (TX13 a).2.1 ≠ (TX13 b).2.1 := by decide +kernel
theorem tyX13_ok : ∀ k, k < 0 → parseFieldDescriptor (TX13 k).2.2.1 = some (tyX13 k) := by decide +kernel
def RX14 : String := "CutoffMillModel$Mill"
def TX14 : u_T := fun k => match k with
  | _ => ("", "", "", false)
def tyX14 : Nat → FieldType := fun k => match k with
  | _ => .int
abbrev wsX140 : List Cond := u_ws RX14 TX14 0
theorem nmX14 : ∀ a, a < 0 → ∀ b, b < 0 → a ≠ b → (TX14 a).2.1 ≠ (TX14 b).2.1 := by decide +kernel
theorem tyX14_ok : ∀ k, k < 0 → parseFieldDescriptor (TX14 k).2.2.1 = some (tyX14 k) := by decide +kernel
def RX15 : String := "CutoffMillModel$Result"
def TX15 : u_T := fun k => match k with
  | _ => ("", "", "", false)
def tyX15 : Nat → FieldType := fun k => match k with
  | _ => .int
abbrev wsX150 : List Cond := u_ws RX15 TX15 0
theorem nmX15 : ∀ a, a < 0 → ∀ b, b < 0 → a ≠ b → (TX15 a).2.1 ≠ (TX15 b).2.1 := by decide +kernel
theorem tyX15_ok : ∀ k, k < 0 → parseFieldDescriptor (TX15 k).2.2.1 = some (tyX15 k) := by decide +kernel
def RX16 : String := "CutoffMillModel$State"
def TX16 : u_T := fun k => match k with
  | _ => ("", "", "", false)
def tyX16 : Nat → FieldType := fun k => match k with
  | _ => .int
abbrev wsX160 : List Cond := u_ws RX16 TX16 0
theorem nmX16 : ∀ a, a < 0 → ∀ b, b < 0 → a ≠ b → (TX16 a).2.1 ≠ (TX16 b).2.1 := by decide +kernel
theorem tyX16_ok : ∀ k, k < 0 → parseFieldDescriptor (TX16 k).2.2.1 = some (tyX16 k) := by decide +kernel
def RX17 : String := "CutoffMillModel$Text"
def TX17 : u_T := fun k => match k with
  | _ => ("", "", "", false)
def tyX17 : Nat → FieldType := fun k => match k with
  | _ => .int
abbrev wsX170 : List Cond := u_ws RX17 TX17 0
theorem nmX17 : ∀ a, a < 0 → ∀ b, b < 0 → a ≠ b → (TX17 a).2.1 ≠ (TX17 b).2.1 := by decide +kernel
theorem tyX17_ok : ∀ k, k < 0 → parseFieldDescriptor (TX17 k).2.2.1 = some (tyX17 k) := by decide +kernel
def RX18 : String := "CutoffMillModel"
def TX18 : u_T := fun k => match k with
  | _ => ("", "", "", false)
def tyX18 : Nat → FieldType := fun k => match k with
  | _ => .int
abbrev wsX180 : List Cond := u_ws RX18 TX18 0
theorem nmX18 : ∀ a, a < 0 → ∀ b, b < 0 → a ≠ b → (TX18 a).2.1 ≠ (TX18 b).2.1 := by decide +kernel
theorem tyX18_ok : ∀ k, k < 0 → parseFieldDescriptor (TX18 k).2.2.1 = some (tyX18 k) := by decide +kernel
def RJx145de : String := "java/io/Serializable"
def TJx145de : u_T := fun k => match k with
  | _ => ("", "", "", false)
def tyJx145de : Nat → FieldType := fun k => match k with
  | _ => .int
abbrev wsJx145de0 : List Cond := u_ws RJx145de TJx145de 0
theorem nmJx145de : ∀ a, a < 0 → ∀ b, b < 0 → a ≠ b → (TJx145de a).2.1 ≠ (TJx145de b).2.1 := by decide +kernel
theorem tyJx145de_ok : ∀ k, k < 0 → parseFieldDescriptor (TJx145de k).2.2.1 = some (tyJx145de k) := by decide +kernel
def RJ6 : String := "java/lang/Integer"
def TJ6 : u_T := fun k => match k with
  | _ => ("", "", "", false)
def tyJ6 : Nat → FieldType := fun k => match k with
  | _ => .int
abbrev wsJ60 : List Cond := u_ws RJ6 TJ6 0
theorem nmJ6 : ∀ a, a < 0 → ∀ b, b < 0 → a ≠ b → (TJ6 a).2.1 ≠ (TJ6 b).2.1 := by decide +kernel
theorem tyJ6_ok : ∀ k, k < 0 → parseFieldDescriptor (TJ6 k).2.2.1 = some (tyJ6 k) := by decide +kernel
abbrev cJ6_bitCount_0f7a4 : ByteArray := prog_25_method_49_code
def yJ6_bitCount_0f7a4 : MethodName := ⟨RJ6, "bitCount", "(I)I"⟩
def RJ0 : String := "java/lang/String"
def TJ0 : u_T := fun k => match k with
  | _ => ("", "", "", false)
def tyJ0 : Nat → FieldType := fun k => match k with
  | _ => .int
abbrev wsJ00 : List Cond := u_ws RJ0 TJ0 0
theorem nmJ0 : ∀ a, a < 0 → ∀ b, b < 0 → a ≠ b → (TJ0 a).2.1 ≠ (TJ0 b).2.1 := by decide +kernel
theorem tyJ0_ok : ∀ k, k < 0 → parseFieldDescriptor (TJ0 k).2.2.1 = some (tyJ0 k) := by decide +kernel
def RJ10 : String := "java/lang/System"
def TJ10 : u_T := fun k => match k with
  | _ => ("", "", "", false)
def tyJ10 : Nat → FieldType := fun k => match k with
  | _ => .int
abbrev wsJ100 : List Cond := u_ws RJ10 TJ10 0
theorem nmJ10 : ∀ a, a < 0 → ∀ b, b < 0 → a ≠ b → (TJ10 a).2.1 ≠ (TJ10 b).2.1 := by decide +kernel
theorem tyJ10_ok : ∀ k, k < 0 → parseFieldDescriptor (TJ10 k).2.2.1 = some (tyJ10 k) := by decide +kernel
def RJ7 : String := "java/util/Arrays"
def TJ7 : u_T := fun k => match k with
  | _ => ("", "", "", false)
def tyJ7 : Nat → FieldType := fun k => match k with
  | _ => .int
abbrev wsJ70 : List Cond := u_ws RJ7 TJ7 0
theorem nmJ7 : ∀ a, a < 0 → ∀ b, b < 0 → a ≠ b → (TJ7 a).2.1 ≠ (TJ7 b).2.1 := by decide +kernel
theorem tyJ7_ok : ∀ k, k < 0 → parseFieldDescriptor (TJ7 k).2.2.1 = some (tyJ7 k) := by decide +kernel
abbrev cJ7_fill_d0a16 : ByteArray := prog_30_method_101_code
def yJ7_fill_d0a16 : MethodName := ⟨RJ7, "fill", "([JJ)V"⟩
abbrev cJ7_fill_53178 : ByteArray := prog_30_method_103_code
def yJ7_fill_53178 : MethodName := ⟨RJ7, "fill", "([II)V"⟩
def RL : String := "CutoffMillLaw"
abbrev cL_below : ByteArray := method_2_code
def yL_below : MethodName := ⟨RL, "below", "(II)I"⟩
abbrev cL_cell : ByteArray := method_3_code
def yL_cell : MethodName := ⟨RL, "cell", "([II)I"⟩
abbrev cL_law : ByteArray := code
def yL_law : MethodName := ⟨RL, "law", "([I)Z"⟩
abbrev cL_isBuilt : ByteArray := method_5_code
def yL_isBuilt : MethodName := ⟨RL, "isBuilt", "(LCutoffMill;I)Z"⟩
abbrev cL_edit : ByteArray := method_6_code
def yL_edit : MethodName := ⟨RL, "edit", "(LCutoffMill;III)Z"⟩
def wsL_law0_r1 : List Cond := [Cond.classLink RL 9 RX10, Cond.instantiable RX10 11, Cond.initialized RX10, Cond.arrayClass .int, Cond.methodLink RL 11 yX10_init, Cond.instanceMethod yX10_init, Cond.code yX10_init cX10_init 1 none, Cond.methodLink RX10 3 objectInit, Cond.instanceMethod objectInit, Cond.code objectInit ⟨#[0xb1]⟩ 1 none, Cond.classLink RX10 9 RX8, Cond.instantiable RX8 4, Cond.initialized RX8, Cond.fieldLink RX10 12 "CutoffMill" "texts" "LCutoffMill$Texts;", Cond.classLink RX10 16 RX4, Cond.instantiable RX4 8, Cond.initialized RX4, Cond.fieldLink RX10 21 "CutoffMill" "names" "LCutoffMill$Names;", Cond.classLink RX10 25 RX6, Cond.instantiable RX6 7, Cond.initialized RX6, Cond.fieldLink RX10 28 "CutoffMill" "rings" "LCutoffMill$Rings;", Cond.classLink RX10 32 RX9, Cond.instantiable RX9 8]
def wsL_law0_r2 : List Cond := [Cond.initialized RX9, Cond.fieldLink RX10 37 "CutoffMill" "works" "LCutoffMill$Works;", Cond.fieldLink RX10 41 "CutoffMill" "trial" "LCutoffMill$Works;", Cond.fieldLink RX10 44 "CutoffMill" "openCalls" "[I", Cond.fieldLink RX10 48 "CutoffMill" "builtTimes" "[I", Cond.fieldLink RX10 51 "CutoffMill" "fetchedTimes" "[I", Cond.instanceMethod yX8_init, Cond.code yX8_init cX8_init 1 none, Cond.methodLink RX8 3 objectInit, Cond.fieldLink RX8 9 "CutoffMill$Texts" "declarations" "[I", Cond.fieldLink RX8 15 "CutoffMill$Texts" "imports" "[I", Cond.fieldLink RX8 18 "CutoffMill$Texts" "importCounts" "[I", Cond.methodLink RX10 18 yX4_init, Cond.instanceMethod yX4_init, Cond.code yX4_init cX4_init 2 none, Cond.methodLink RX4 3 objectInit, Cond.fieldLink RX4 9 "CutoffMill$Names" "outside" "[I", Cond.fieldLink RX4 15 "CutoffMill$Names" "within" "[I", Cond.fieldLink RX4 18 "CutoffMill$Names" "wanted" "[I", Cond.fieldLink RX4 21 "CutoffMill$Names" "sources" "[I", Cond.fieldLink RX4 24 "CutoffMill$Names" "sourcesAgain" "[I", Cond.fieldLink RX4 27 "CutoffMill$Names" "allFrom" "[I", Cond.fieldLink RX4 30 "CutoffMill$Names" "allFromAgain" "[I", Cond.fieldLink RX4 33 "CutoffMill$Names" "texts" "LCutoffMill$Texts;"]
def wsL_law0_r3 : List Cond := [Cond.methodLink RX10 27 yX6_init, Cond.instanceMethod yX6_init, Cond.code yX6_init cX6_init 2 none, Cond.methodLink RX6 3 objectInit, Cond.fieldLink RX6 9 "CutoffMill$Rings" "leansOn" "[I", Cond.fieldLink RX6 15 "CutoffMill$Rings" "reach" "[I", Cond.fieldLink RX6 18 "CutoffMill$Rings" "ringOf" "[I", Cond.fieldLink RX6 21 "CutoffMill$Rings" "placeOf" "[I", Cond.fieldLink RX6 24 "CutoffMill$Rings" "order" "[I", Cond.fieldLink RX6 27 "CutoffMill$Rings" "texts" "LCutoffMill$Texts;", Cond.methodLink RX10 34 yX9_init, Cond.instanceMethod yX9_init, Cond.code yX9_init cX9_init 6 none, Cond.methodLink RX9 3 objectInit, Cond.classLink RX9 9 RX5, Cond.fieldLink RX9 11 "CutoffMill$Works" "last" "[LCutoffMill$Result;", Cond.fieldLink RX9 17 "CutoffMill$Works" "texts" "LCutoffMill$Texts;", Cond.fieldLink RX9 21 "CutoffMill$Works" "names" "LCutoffMill$Names;", Cond.fieldLink RX9 25 "CutoffMill$Works" "rings" "LCutoffMill$Rings;", Cond.classLink RX9 29 RX7, Cond.instantiable RX7 2, Cond.initialized RX7, Cond.fieldLink RX9 34 "CutoffMill$Works" "store" "LCutoffMill$Store;", Cond.instantiable RX5 10]
def wsL_law0_r4 : List Cond := [Cond.initialized RX5, Cond.fieldLink RX9 39 "CutoffMill$Works" "unbuilt" "LCutoffMill$Result;", Cond.fieldLink RX9 43 "CutoffMill$Works" "pool" "[LCutoffMill$Result;", Cond.classLink RX9 46 RX3, Cond.instantiable RX3 8, Cond.initialized RX3, Cond.fieldLink RX9 51 "CutoffMill$Works" "maker" "LCutoffMill$Maker;", Cond.methodLink RX9 31 yX7_init, Cond.instanceMethod yX7_init, Cond.code yX7_init cX7_init 2 none, Cond.methodLink RX7 1 objectInit, Cond.classLink RX7 7 RX5, Cond.fieldLink RX7 9 "CutoffMill$Store" "kept" "[LCutoffMill$Result;", Cond.methodLink RX9 38 yX5_init, Cond.instanceMethod yX5_init, Cond.code yX5_init cX5_init 2 none, Cond.methodLink RX5 3 objectInit, Cond.classLink RX5 9 RX8, Cond.fieldLink RX5 12 "CutoffMill$Result" "texts" "LCutoffMill$Texts;", Cond.arrayClass .long, Cond.fieldLink RX5 18 "CutoffMill$Result" "noted" "[J", Cond.fieldLink RX5 22 "CutoffMill$Result" "answers" "[J", Cond.fieldLink RX5 25 "CutoffMill$Result" "faults" "[I", Cond.arrayClass .boolean]
def wsL_law0_r5 : List Cond := [Cond.fieldLink RX5 29 "CutoffMill$Result" "isProcedure" "[Z", Cond.fieldLink RX5 33 "CutoffMill$Result" "isPlain" "[Z", Cond.fieldLink RX5 36 "CutoffMill$Result" "numbers" "[I", Cond.fieldLink RX5 39 "CutoffMill$Result" "firstCalls" "[I", Cond.fieldLink RX5 42 "CutoffMill$Result" "secondCalls" "[I", Cond.methodLink RX5 45 yX5_setUnbuilt, Cond.instanceMethod yX5_setUnbuilt, Cond.selects RX5 yX5_setUnbuilt yX5_setUnbuilt, Cond.code yX5_setUnbuilt cX5_setUnbuilt 2 none, Cond.methodLink RX5 65 yX0_of, Cond.static yX0_of, Cond.initialized RX0, Cond.code yX0_of cX0_of 5 (some .long), Cond.constantLong RX0 9 (4294967295), Cond.methodLink RX9 48 yX3_init, Cond.instanceMethod yX3_init, Cond.code yX3_init cX3_init 2 none, Cond.methodLink RX3 3 objectInit, Cond.classLink RX3 9 RX5, Cond.fieldLink RX3 11 "CutoffMill$Maker" "states" "[LCutoffMill$Result;", Cond.fieldLink RX3 17 "CutoffMill$Maker" "members" "[I", Cond.fieldLink RX3 21 "CutoffMill$Maker" "targets" "[I", Cond.fieldLink RX3 24 "CutoffMill$Maker" "isLink" "[Z", Cond.fieldLink RX3 28 "CutoffMill$Maker" "walk" "[I"]
def wsL_law0_r6 : List Cond := [Cond.fieldLink RX3 31 "CutoffMill$Maker" "isWalked" "[Z", Cond.fieldLink RX3 34 "CutoffMill$Maker" "names" "LCutoffMill$Names;", Cond.methodLink RL 12 yL_cell, Cond.static yL_cell, Cond.initialized RL, Cond.code yL_cell cL_cell 2 (some .int), Cond.constant RL 8 (790386105), Cond.methodLink RL 18 yL_below, Cond.static yL_below, Cond.code yL_below cL_below 2 (some .int), Cond.constant RL 7 (2147483647), Cond.methodLink RL 22 yX10_module, Cond.instanceMethod yX10_module, Cond.selects RX10 yX10_module yX10_module, Cond.code yX10_module cX10_module 1 (some .int), Cond.classLink RX10 58 "java/lang/IllegalStateException", Cond.initialized "java/lang/IllegalStateException", Cond.fieldLink RX10 54 "CutoffMill$Texts" "moduleCount" "I", Cond.methodLink RX10 65 yX10_settle, Cond.instanceMethod yX10_settle, Cond.selects RX10 yX10_settle yX10_settle, Cond.code yX10_settle cX10_settle 1 none, Cond.methodLink RX10 304 yX4_settle, Cond.instanceMethod yX4_settle]
def wsL_law0_r7 : List Cond := [Cond.selects RX4 yX4_settle yX4_settle, Cond.code yX4_settle cX4_settle 2 none, Cond.fieldLink RX4 49 "CutoffMill$Texts" "moduleCount" "I", Cond.methodLink RX4 37 yX4_settleImports, Cond.instanceMethod yX4_settleImports, Cond.selects RX4 yX4_settleImports yX4_settleImports, Cond.code yX4_settleImports cX4_settleImports 3 none, Cond.fieldLink RX4 67 "CutoffMill$Texts" "importCounts" "[I", Cond.methodLink RX4 43 yJ7_fill_53178, Cond.static yJ7_fill_53178, Cond.initialized RJ7, Cond.code yJ7_fill_53178 cJ7_fill_53178 4 none, Cond.methodLink RX4 70 yX8_importAt, Cond.instanceMethod yX8_importAt, Cond.selects RX8 yX8_importAt yX8_importAt, Cond.code yX8_importAt cX8_importAt 3 (some .int), Cond.methodLink RX4 74 yX4_settleImport, Cond.instanceMethod yX4_settleImport, Cond.selects RX4 yX4_settleImport yX4_settleImport, Cond.code yX4_settleImport cX4_settleImport 5 none, Cond.methodLink RX4 78 yX2_isAgain, Cond.static yX2_isAgain, Cond.initialized RX2, Cond.code yX2_isAgain cX2_isAgain 1 (some .boolean)]
def wsL_law0_r8 : List Cond := [Cond.methodLink RX4 83 yX2_isOfAll, Cond.static yX2_isOfAll, Cond.code yX2_isOfAll cX2_isOfAll 1 (some .boolean), Cond.methodLink RX4 86 yX2_from, Cond.static yX2_from, Cond.code yX2_from cX2_from 1 (some .int), Cond.methodLink RX4 90 yX2_under, Cond.static yX2_under, Cond.code yX2_under cX2_under 1 (some .int), Cond.methodLink RX4 93 yX2_source, Cond.static yX2_source, Cond.code yX2_source cX2_source 1 (some .int), Cond.methodLink RX2 9 yX2_from, Cond.methodLink RX4 40 yX4_settleOutside, Cond.instanceMethod yX4_settleOutside, Cond.selects RX4 yX4_settleOutside yX4_settleOutside, Cond.code yX4_settleOutside cX4_settleOutside 5 none, Cond.methodLink RX4 96 yX4_lookedUp, Cond.instanceMethod yX4_lookedUp, Cond.selects RX4 yX4_lookedUp yX4_lookedUp, Cond.code yX4_lookedUp cX4_lookedUp 2 (some .int), Cond.fieldLink RX4 99 "CutoffMill$Texts" "declarations" "[I", Cond.methodLink RX4 55 yX8_isDeclared, Cond.instanceMethod yX8_isDeclared]
def wsL_law0_r9 : List Cond := [Cond.selects RX8 yX8_isDeclared yX8_isDeclared, Cond.code yX8_isDeclared cX8_isDeclared 2 (some .boolean), Cond.methodLink RX4 102 yX1_isPublic, Cond.static yX1_isPublic, Cond.initialized RX1, Cond.code yX1_isPublic cX1_isPublic 1 (some .boolean), Cond.methodLink RX4 59 yX4_broughtTo, Cond.instanceMethod yX4_broughtTo, Cond.selects RX4 yX4_broughtTo yX4_broughtTo, Cond.code yX4_broughtTo cX4_broughtTo 6 (some .int), Cond.methodLink RX4 107 yX6_has, Cond.static yX6_has, Cond.code yX6_has cX6_has 2 (some .boolean), Cond.methodLink RX4 113 yX4_joined, Cond.static yX4_joined, Cond.code yX4_joined cX4_joined 2 (some .int), Cond.methodLink RX4 63 yX4_wantReferences, Cond.instanceMethod yX4_wantReferences, Cond.selects RX4 yX4_wantReferences yX4_wantReferences, Cond.code yX4_wantReferences cX4_wantReferences 3 none, Cond.methodLink RX4 116 yX1_reference, Cond.static yX1_reference, Cond.code yX1_reference cX1_reference 2 (some .int), Cond.methodLink RX4 119 yX4_want]
def wsL_law0_r10 : List Cond := [Cond.instanceMethod yX4_want, Cond.selects RX4 yX4_want yX4_want, Cond.code yX4_want cX4_want 5 none, Cond.methodLink RX10 305 yX6_settle, Cond.instanceMethod yX6_settle, Cond.selects RX6 yX6_settle yX6_settle, Cond.code yX6_settle cX6_settle 2 none, Cond.fieldLink RX6 38 "CutoffMill$Texts" "moduleCount" "I", Cond.methodLink RX6 35 yX6_settleLeaning, Cond.instanceMethod yX6_settleLeaning, Cond.selects RX6 yX6_settleLeaning yX6_settleLeaning, Cond.code yX6_settleLeaning cX6_settleLeaning 4 none, Cond.fieldLink RX6 51 "CutoffMill$Texts" "importCounts" "[I", Cond.methodLink RX6 54 yX8_importAt, Cond.methodLink RX6 58 yX2_from, Cond.methodLink RX6 31 yX6_has, Cond.methodLink RX6 44 yX6_ringAround, Cond.instanceMethod yX6_ringAround, Cond.selects RX6 yX6_ringAround yX6_ringAround, Cond.code yX6_ringAround cX6_ringAround 4 (some .int), Cond.methodLink RX6 48 yX6_settleOrder, Cond.instanceMethod yX6_settleOrder, Cond.selects RX6 yX6_settleOrder yX6_settleOrder, Cond.code yX6_settleOrder cX6_settleOrder 4 none]
def wsL_law0_r11 : List Cond := [Cond.fieldLink RX6 63 "CutoffMill$Rings" "count" "I", Cond.methodLink RX6 66 yX6_nextBehind, Cond.instanceMethod yX6_nextBehind, Cond.selects RX6 yX6_nextBehind yX6_nextBehind, Cond.code yX6_nextBehind cX6_nextBehind 4 (some .int), Cond.methodLink RX6 69 yX6_placeModules, Cond.instanceMethod yX6_placeModules, Cond.selects RX6 yX6_placeModules yX6_placeModules, Cond.code yX6_placeModules cX6_placeModules 4 none, Cond.methodLink RL 26 yL_edit, Cond.static yL_edit, Cond.code yL_edit cL_edit 9 (some .boolean), Cond.methodLink RL 69 yX10_ofModule, Cond.instanceMethod yX10_ofModule, Cond.selects RX10 yX10_ofModule yX10_ofModule, Cond.code yX10_ofModule cX10_ofModule 4 (some .int), Cond.fieldLink RX10 124 "CutoffMill$Rings" "ringOf" "[I", Cond.fieldLink RX10 102 "CutoffMill$Texts" "importCounts" "[I", Cond.fieldLink RX10 130 "CutoffMill$Rings" "placeOf" "[I", Cond.fieldLink RX10 133 "CutoffMill$Rings" "leansOn" "[I", Cond.methodLink RX10 68 yX10_checkModule, Cond.instanceMethod yX10_checkModule, Cond.selects RX10 yX10_checkModule yX10_checkModule, Cond.code yX10_checkModule cX10_checkModule 2 none]
def wsL_law0_r12 : List Cond := [Cond.classLink RX10 116 "java/lang/IndexOutOfBoundsException", Cond.initialized "java/lang/IndexOutOfBoundsException", Cond.methodLink RX10 72 yX10_checkWithin, Cond.static yX10_checkWithin, Cond.code yX10_checkWithin cX10_checkWithin 3 none, Cond.classLink RX10 95 "java/lang/IllegalArgumentException", Cond.initialized "java/lang/IllegalArgumentException", Cond.methodLink RX10 80 yX8_declarationsOf, Cond.instanceMethod yX8_declarationsOf, Cond.selects RX8 yX8_declarationsOf yX8_declarationsOf, Cond.code yX8_declarationsOf cX8_declarationsOf 4 (some .int), Cond.methodLink RX8 21 yX8_isDeclared, Cond.methodLink RX10 127 yX6_smallestOf, Cond.static yX6_smallestOf, Cond.code yX6_smallestOf cX6_smallestOf 2 (some .int), Cond.methodLink RX10 136 yX4_wantedBy, Cond.instanceMethod yX4_wantedBy, Cond.selects RX4 yX4_wantedBy yX4_wantedBy, Cond.code yX4_wantedBy cX4_wantedBy 4 (some .int), Cond.methodLink RX4 122 yJ6_bitCount_0f7a4, Cond.static yJ6_bitCount_0f7a4, Cond.initialized RJ6, Cond.code yJ6_bitCount_0f7a4 cJ6_bitCount_0f7a4 1 (some .int), Cond.constant RJ6 265 (1431655765)]
def wsL_law0_r13 : List Cond := [Cond.constant RJ6 266 (858993459), Cond.constant RJ6 267 (252645135), Cond.methodLink RX10 139 yX9_reasonOf, Cond.instanceMethod yX9_reasonOf, Cond.selects RX9 yX9_reasonOf yX9_reasonOf, Cond.code yX9_reasonOf cX9_reasonOf 3 (some .int), Cond.methodLink RX9 90 yX9_firstUnbuilt, Cond.instanceMethod yX9_firstUnbuilt, Cond.selects RX9 yX9_firstUnbuilt yX9_firstUnbuilt, Cond.code yX9_firstUnbuilt cX9_firstUnbuilt 3 (some .int), Cond.fieldLink RX9 113 "CutoffMill$Result" "modules" "I", Cond.methodLink RX9 109 yX6_has, Cond.methodLink RX9 93 yX9_wasInOtherRing, Cond.instanceMethod yX9_wasInOtherRing, Cond.selects RX9 yX9_wasInOtherRing yX9_wasInOtherRing, Cond.code yX9_wasInOtherRing cX9_wasInOtherRing 3 (some .boolean), Cond.methodLink RX9 96 yX9_resultOf, Cond.instanceMethod yX9_resultOf, Cond.selects RX9 yX9_resultOf yX9_resultOf, Cond.code yX9_resultOf cX9_resultOf 3 (some (.object "CutoffMill$Result")), Cond.methodLink RX9 106 yX6_smallestOf, Cond.methodLink RX9 99 yX9_firstOtherText, Cond.instanceMethod yX9_firstOtherText, Cond.selects RX9 yX9_firstOtherText yX9_firstOtherText]
def wsL_law0_r14 : List Cond := [Cond.code yX9_firstOtherText cX9_firstOtherText 3 (some .int), Cond.fieldLink RX9 65 "CutoffMill$Result" "texts" "LCutoffMill$Texts;", Cond.methodLink RX9 116 yX8_isSame, Cond.instanceMethod yX8_isSame, Cond.selects RX8 yX8_isSame yX8_isSame, Cond.code yX8_isSame cX8_isSame 4 (some .boolean), Cond.methodLink RX8 33 yX8_importAt, Cond.methodLink RX9 103 yX9_firstOtherAnswer, Cond.instanceMethod yX9_firstOtherAnswer, Cond.selects RX9 yX9_firstOtherAnswer yX9_firstOtherAnswer, Cond.code yX9_firstOtherAnswer cX9_firstOtherAnswer 3 (some .int), Cond.fieldLink RX9 120 "CutoffMill$Result" "noted" "[J", Cond.constantLong RX9 124 (-3), Cond.methodLink RX9 126 yX9_answerTo, Cond.instanceMethod yX9_answerTo, Cond.selects RX9 yX9_answerTo yX9_answerTo, Cond.code yX9_answerTo cX9_answerTo 4 (some .long), Cond.fieldLink RX9 130 "CutoffMill$Names" "outside" "[I", Cond.fieldLink RX9 135 "CutoffMill$Result" "answers" "[J", Cond.methodLink RL 72 yX10_drop, Cond.instanceMethod yX10_drop, Cond.selects RX10 yX10_drop yX10_drop, Cond.code yX10_drop cX10_drop 5 (some .boolean), Cond.fieldLink RX10 86 "CutoffMill$Texts" "declarations" "[I"]
def wsL_law0_r15 : List Cond := [Cond.methodLink RX10 76 yX8_isDeclared, Cond.methodLink RL 76 yX10_leave, Cond.instanceMethod yX10_leave, Cond.selects RX10 yX10_leave yX10_leave, Cond.code yX10_leave cX10_leave 3 (some .int), Cond.methodLink RX10 121 yX8_removeImport, Cond.instanceMethod yX8_removeImport, Cond.selects RX8 yX8_removeImport yX8_removeImport, Cond.code yX8_removeImport cX8_removeImport 4 none, Cond.methodLink RL 79 yX10_bring, Cond.instanceMethod yX10_bring, Cond.selects RX10 yX10_bring yX10_bring, Cond.code yX10_bring cX10_bring 6 (some .int), Cond.methodLink RX10 107 yX2_of, Cond.static yX2_of, Cond.code yX2_of cX2_of 4 (some .int), Cond.methodLink RX10 112 yX8_addImport, Cond.instanceMethod yX8_addImport, Cond.selects RX8 yX8_addImport yX8_addImport, Cond.code yX8_addImport cX8_addImport 3 none, Cond.methodLink RL 83 yX10_declare, Cond.instanceMethod yX10_declare, Cond.selects RX10 yX10_declare yX10_declare, Cond.code yX10_declare cX10_declare 9 (some .int)]
def wsL_law0_r16 : List Cond := [Cond.methodLink RX10 89 yX1_of, Cond.static yX1_of, Cond.code yX1_of cX1_of 5 (some .int), Cond.methodLink RL 30 yX10_wouldBuild, Cond.instanceMethod yX10_wouldBuild, Cond.selects RX10 yX10_wouldBuild yX10_wouldBuild, Cond.code yX10_wouldBuild cX10_wouldBuild 1 (some .int), Cond.methodLink RX10 241 yX9_startFrom, Cond.instanceMethod yX9_startFrom, Cond.selects RX9 yX9_startFrom yX9_startFrom, Cond.code yX9_startFrom cX9_startFrom 3 none, Cond.methodLink RX9 55 yX8_copy, Cond.instanceMethod yX8_copy, Cond.selects RX8 yX8_copy yX8_copy, Cond.code yX8_copy cX8_copy 2 none, Cond.methodLink RX8 37 arraycopyName, Cond.native arraycopyName, Cond.static arraycopyName, Cond.initialized "java/lang/System", Cond.fieldLink RX8 25 "CutoffMill$Texts" "moduleCount" "I", Cond.methodLink RX10 245 yX9_renewAll, Cond.instanceMethod yX9_renewAll, Cond.selects RX9 yX9_renewAll yX9_renewAll, Cond.code yX9_renewAll cX9_renewAll 3 (some .int)]
def wsL_law0_r17 : List Cond := [Cond.fieldLink RX9 77 "CutoffMill$Rings" "count" "I", Cond.fieldLink RX9 83 "CutoffMill$Rings" "order" "[I", Cond.methodLink RX9 86 yX9_reasonOf, Cond.methodLink RX9 138 yX9_renew, Cond.instanceMethod yX9_renew, Cond.selects RX9 yX9_renew yX9_renew, Cond.code yX9_renew cX9_renew 6 (some .boolean), Cond.fieldLink RX9 151 "CutoffMill$Store" "kept" "[LCutoffMill$Result;", Cond.methodLink RX9 148 yX9_placeInStore, Cond.instanceMethod yX9_placeInStore, Cond.selects RX9 yX9_placeInStore yX9_placeInStore, Cond.code yX9_placeInStore cX9_placeInStore 4 (some .int), Cond.fieldLink RX9 176 "CutoffMill$Store" "count" "I", Cond.methodLink RX9 154 yX7_makeNewest, Cond.instanceMethod yX7_makeNewest, Cond.selects RX7 yX7_makeNewest yX7_makeNewest, Cond.code yX7_makeNewest cX7_makeNewest 3 none, Cond.methodLink RX7 19 yX7_takeOut, Cond.instanceMethod yX7_takeOut, Cond.selects RX7 yX7_takeOut yX7_takeOut, Cond.code yX7_takeOut cX7_takeOut 3 none, Cond.fieldLink RX7 15 "CutoffMill$Store" "count" "I", Cond.methodLink RX7 23 yX7_put, Cond.instanceMethod yX7_put]
def wsL_law0_r18 : List Cond := [Cond.selects RX7 yX7_put yX7_put, Cond.code yX7_put cX7_put 2 none, Cond.methodLink RX9 157 yX9_freeResult, Cond.instanceMethod yX9_freeResult, Cond.selects RX9 yX9_freeResult yX9_freeResult, Cond.code yX9_freeResult cX9_freeResult 3 (some (.object "CutoffMill$Result")), Cond.methodLink RX9 177 yX9_isHeld, Cond.instanceMethod yX9_isHeld, Cond.selects RX9 yX9_isHeld yX9_isHeld, Cond.code yX9_isHeld cX9_isHeld 3 (some .boolean), Cond.methodLink RX9 181 yX7_holds, Cond.instanceMethod yX7_holds, Cond.selects RX7 yX7_holds yX7_holds, Cond.code yX7_holds cX7_holds 3 (some .boolean), Cond.methodLink RX9 161 yX5_begin, Cond.instanceMethod yX5_begin, Cond.selects RX5 yX5_begin yX5_begin, Cond.code yX5_begin cX5_begin 4 none, Cond.fieldLink RX5 49 "CutoffMill$Result" "modules" "I", Cond.constantLong RX5 57 (-3), Cond.methodLink RX5 53 yX8_copy, Cond.methodLink RX5 59 yJ7_fill_d0a16, Cond.static yJ7_fill_d0a16, Cond.code yJ7_fill_d0a16 cJ7_fill_d0a16 5 none]
def wsL_law0_r19 : List Cond := [Cond.methodLink RX9 165 yX9_noteAnswers, Cond.instanceMethod yX9_noteAnswers, Cond.selects RX9 yX9_noteAnswers yX9_noteAnswers, Cond.code yX9_noteAnswers cX9_noteAnswers 4 none, Cond.methodLink RX9 184 yX4_isWanted, Cond.instanceMethod yX4_isWanted, Cond.selects RX4 yX4_isWanted yX4_isWanted, Cond.code yX4_isWanted cX4_isWanted 3 (some .boolean), Cond.methodLink RX9 169 yX3_makeStates, Cond.instanceMethod yX3_makeStates, Cond.selects RX3 yX3_makeStates yX3_makeStates, Cond.code yX3_makeStates cX3_makeStates 4 none, Cond.fieldLink RX3 38 "CutoffMill$Result" "modules" "I", Cond.fieldLink RX3 55 "CutoffMill$Maker" "memberCount" "I", Cond.fieldLink RX3 62 "CutoffMill$Result" "faults" "[I", Cond.methodLink RX3 42 yX6_has, Cond.methodLink RX3 48 yX3_findMembers, Cond.instanceMethod yX3_findMembers, Cond.selects RX3 yX3_findMembers yX3_findMembers, Cond.code yX3_findMembers cX3_findMembers 4 none, Cond.fieldLink RX3 77 "CutoffMill$Result" "texts" "LCutoffMill$Texts;", Cond.fieldLink RX3 86 "CutoffMill$Texts" "declarations" "[I", Cond.fieldLink RX3 89 "CutoffMill$Result" "isProcedure" "[Z", Cond.methodLink RX3 81 yX8_isDeclared]
def wsL_law0_r20 : List Cond := [Cond.methodLink RX3 92 yX1_isProcedure, Cond.static yX1_isProcedure, Cond.code yX1_isProcedure cX1_isProcedure 1 (some .boolean), Cond.methodLink RX3 96 yX1_reference, Cond.methodLink RX3 100 yX3_targetOf, Cond.instanceMethod yX3_targetOf, Cond.selects RX3 yX3_targetOf yX3_targetOf, Cond.code yX3_targetOf cX3_targetOf 3 (some .int), Cond.fieldLink RX3 103 "CutoffMill$Names" "within" "[I", Cond.methodLink RX3 52 yX3_findDirectFaults, Cond.instanceMethod yX3_findDirectFaults, Cond.selects RX3 yX3_findDirectFaults yX3_findDirectFaults, Cond.code yX3_findDirectFaults cX3_findDirectFaults 7 none, Cond.static yX10_clear, Cond.code yX10_clear cX10_clear 2 none, Cond.methodLink RX3 112 yX3_directFault, Cond.instanceMethod yX3_directFault, Cond.selects RX3 yX3_directFault yX3_directFault, Cond.code yX3_directFault cX3_directFault 3 (some .int), Cond.methodLink RX3 58 yX3_comesBack, Cond.instanceMethod yX3_comesBack, Cond.selects RX3 yX3_comesBack yX3_comesBack, Cond.code yX3_comesBack cX3_comesBack 6 (some .boolean), Cond.methodLink RX3 65 yX3_spreadFaults]
def wsL_law0_r21 : List Cond := [Cond.instanceMethod yX3_spreadFaults, Cond.selects RX3 yX3_spreadFaults yX3_spreadFaults, Cond.code yX3_spreadFaults cX3_spreadFaults 6 none, Cond.methodLink RX3 116 yX3_isFaulty, Cond.instanceMethod yX3_isFaulty, Cond.selects RX3 yX3_isFaulty yX3_isFaulty, Cond.code yX3_isFaulty cX3_isFaulty 2 (some .boolean), Cond.methodLink RX3 68 yX3_findPlain, Cond.instanceMethod yX3_findPlain, Cond.selects RX3 yX3_findPlain yX3_findPlain, Cond.code yX3_findPlain cX3_findPlain 6 none, Cond.fieldLink RX3 119 "CutoffMill$Result" "isPlain" "[Z", Cond.fieldLink RX3 125 "CutoffMill$Result" "numbers" "[I", Cond.methodLink RX3 122 yX3_isNoCall, Cond.instanceMethod yX3_isNoCall, Cond.selects RX3 yX3_isNoCall yX3_isNoCall, Cond.code yX3_isNoCall cX3_isNoCall 2 (some .boolean), Cond.methodLink RX3 128 yX3_numberWithTargets, Cond.instanceMethod yX3_numberWithTargets, Cond.selects RX3 yX3_numberWithTargets yX3_numberWithTargets, Cond.code yX3_numberWithTargets cX3_numberWithTargets 6 (some .int), Cond.methodLink RX3 132 yX1_numberOf, Cond.static yX1_numberOf, Cond.code yX1_numberOf cX1_numberOf 1 (some .int)]
def wsL_law0_r22 : List Cond := [Cond.methodLink RX3 71 yX3_findCalls, Cond.instanceMethod yX3_findCalls, Cond.selects RX3 yX3_findCalls yX3_findCalls, Cond.code yX3_findCalls cX3_findCalls 4 none, Cond.methodLink RX3 136 yX3_addCall, Cond.instanceMethod yX3_addCall, Cond.selects RX3 yX3_addCall yX3_addCall, Cond.code yX3_addCall cX3_addCall 4 none, Cond.fieldLink RX3 140 "CutoffMill$Result" "firstCalls" "[I", Cond.fieldLink RX3 143 "CutoffMill$Result" "secondCalls" "[I", Cond.methodLink RX3 74 yX3_tellAnswers, Cond.instanceMethod yX3_tellAnswers, Cond.selects RX3 yX3_tellAnswers yX3_tellAnswers, Cond.code yX3_tellAnswers cX3_tellAnswers 5 none, Cond.fieldLink RX3 146 "CutoffMill$Result" "answers" "[J", Cond.methodLink RX3 150 yX0_of, Cond.methodLink RX9 173 yX7_put, Cond.methodLink RL 33 yX10_rounds, Cond.instanceMethod yX10_rounds, Cond.selects RX10 yX10_rounds yX10_rounds, Cond.code yX10_rounds cX10_rounds 3 (some .int), Cond.methodLink RX10 252 yX9_renewRound, Cond.instanceMethod yX9_renewRound, Cond.selects RX9 yX9_renewRound yX9_renewRound]
def wsL_law0_r23 : List Cond := [Cond.code yX9_renewRound cX9_renewRound 7 (some .int), Cond.fieldLink RX9 145 "CutoffMill$Rings" "reach" "[I", Cond.methodLink RX9 141 yX9_staleModules, Cond.instanceMethod yX9_staleModules, Cond.selects RX9 yX9_staleModules yX9_staleModules, Cond.code yX9_staleModules cX9_staleModules 3 (some .int), Cond.methodLink RL 37 yX10_many, Cond.instanceMethod yX10_many, Cond.selects RX10 yX10_many yX10_many, Cond.code yX10_many cX10_many 2 (some .int), Cond.fieldLink RX10 171 "CutoffMill$Rings" "count" "I", Cond.fieldLink RX10 228 "CutoffMill$Works" "store" "LCutoffMill$Store;", Cond.fieldLink RX10 232 "CutoffMill$Store" "count" "I", Cond.fieldLink RX10 235 "CutoffMill" "ringsBuilt" "I", Cond.fieldLink RX10 238 "CutoffMill" "ringsFetched" "I", Cond.fieldLink RX10 168 "CutoffMill" "builds" "I", Cond.methodLink RX10 215 yX8_allDeclarations, Cond.instanceMethod yX8_allDeclarations, Cond.selects RX8 yX8_allDeclarations yX8_allDeclarations, Cond.code yX8_allDeclarations cX8_allDeclarations 3 (some .int), Cond.methodLink RX8 29 yX8_declarationsOf, Cond.methodLink RX10 219 yX8_allImports, Cond.instanceMethod yX8_allImports, Cond.selects RX8 yX8_allImports yX8_allImports]
def wsL_law0_r24 : List Cond := [Cond.code yX8_allImports cX8_allImports 3 (some .int), Cond.methodLink RX10 222 yX9_staleCount, Cond.instanceMethod yX9_staleCount, Cond.selects RX9 yX9_staleCount yX9_staleCount, Cond.code yX9_staleCount cX9_staleCount 3 (some .int), Cond.methodLink RX10 225 yX9_faultCount, Cond.instanceMethod yX9_faultCount, Cond.selects RX9 yX9_faultCount yX9_faultCount, Cond.code yX9_faultCount cX9_faultCount 3 (some .int), Cond.methodLink RX9 74 yX9_isFaulty, Cond.instanceMethod yX9_isFaulty, Cond.selects RX9 yX9_isFaulty yX9_isFaulty, Cond.code yX9_isFaulty cX9_isFaulty 3 (some .boolean), Cond.fieldLink RX9 70 "CutoffMill$Result" "faults" "[I", Cond.methodLink RX9 61 yX9_stateOf, Cond.instanceMethod yX9_stateOf, Cond.selects RX9 yX9_stateOf yX9_stateOf, Cond.code yX9_stateOf cX9_stateOf 2 (some (.object "CutoffMill$Result")), Cond.methodLink RX9 66 yX8_isDeclared, Cond.methodLink RL 40 yX10_build, Cond.instanceMethod yX10_build, Cond.selects RX10 yX10_build yX10_build, Cond.code yX10_build cX10_build 5 (some .int), Cond.fieldLink RX10 174 "CutoffMill$Rings" "order" "[I"]
def wsL_law0_r25 : List Cond := [Cond.methodLink RX10 177 yX9_renew, Cond.methodLink RX10 180 yX10_countRenewal, Cond.instanceMethod yX10_countRenewal, Cond.selects RX10 yX10_countRenewal yX10_countRenewal, Cond.code yX10_countRenewal cX10_countRenewal 5 none, Cond.methodLink RX10 306 yX6_has, Cond.methodLink RL 43 yX10_isAsNew, Cond.instanceMethod yX10_isAsNew, Cond.selects RX10 yX10_isAsNew yX10_isAsNew, Cond.code yX10_isAsNew cX10_isAsNew 1 (some .boolean), Cond.methodLink RL 47 yL_isBuilt, Cond.static yL_isBuilt, Cond.code yL_isBuilt cL_isBuilt 6 (some .boolean), Cond.constant RL 65 (-1000000), Cond.methodLink RL 62 yX10_built, Cond.instanceMethod yX10_built, Cond.selects RX10 yX10_built yX10_built, Cond.code yX10_built cX10_built 6 (some .int), Cond.fieldLink RX10 194 "CutoffMill$Result" "texts" "LCutoffMill$Texts;", Cond.fieldLink RX10 195 "CutoffMill$Result" "faults" "[I", Cond.fieldLink RX10 156 "CutoffMill$Result" "answers" "[J", Cond.fieldLink RX10 198 "CutoffMill$Result" "numbers" "[I", Cond.fieldLink RX10 204 "CutoffMill$Result" "firstCalls" "[I", Cond.methodLink RX10 152 yX9_stateOf]
def wsL_law0_r26 : List Cond := [Cond.methodLink RX10 162 yX0_trait, Cond.static yX0_trait, Cond.code yX0_trait cX0_trait 3 (some .int), Cond.methodLink RX10 201 yX5_callCount, Cond.instanceMethod yX5_callCount, Cond.selects RX5 yX5_callCount yX5_callCount, Cond.code yX5_callCount cX5_callCount 2 (some .int), Cond.methodLink RX10 145 yX10_partOf, Cond.static yX10_partOf, Cond.code yX10_partOf cX10_partOf 2 (some .int), Cond.methodLink RL 51 yX10_run, Cond.instanceMethod yX10_run, Cond.selects RX10 yX10_run yX10_run, Cond.code yX10_run cX10_run 3 (some .int), Cond.methodLink RX10 212 yX10_valueOf, Cond.instanceMethod yX10_valueOf, Cond.selects RX10 yX10_valueOf yX10_valueOf, Cond.code yX10_valueOf cX10_valueOf 8 (some .int), Cond.constant RX10 313 (-1000000), Cond.fieldLink RX10 314 "CutoffMill$Result" "secondCalls" "[I", Cond.methodLink RX10 317 yX10_openCall, Cond.instanceMethod yX10_openCall, Cond.selects RX10 yX10_openCall yX10_openCall, Cond.code yX10_openCall cX10_openCall 4 (some .int)]
def wsL_law0_r27 : List Cond := [Cond.methodLink RL 66 yX10_fault, Cond.instanceMethod yX10_fault, Cond.selects RX10 yX10_fault yX10_fault, Cond.code yX10_fault cX10_fault 4 (some .int), Cond.methodLink RX10 207 yX10_slotOfFault, Cond.instanceMethod yX10_slotOfFault, Cond.selects RX10 yX10_slotOfFault yX10_slotOfFault, Cond.code yX10_slotOfFault cX10_slotOfFault 4 (some .int), Cond.methodLink RX10 310 yX9_isFaulty, Cond.methodLink RL 54 yX10_digest, Cond.instanceMethod yX10_digest, Cond.selects RX10 yX10_digest yX10_digest, Cond.code yX10_digest cX10_digest 6 (some .long), Cond.constantLong RX10 255 (58138), Cond.constantLong RX10 257 (31), Cond.methodLink RX10 259 yX10_many, Cond.methodLink RX10 262 yX10_digestOfModule, Cond.instanceMethod yX10_digestOfModule, Cond.selects RX10 yX10_digestOfModule yX10_digestOfModule, Cond.code yX10_digestOfModule cX10_digestOfModule 7 (some .long), Cond.methodLink RX10 279 yX10_ofModule, Cond.methodLink RX10 282 yX10_why, Cond.instanceMethod yX10_why, Cond.selects RX10 yX10_why yX10_why]
def wsL_law0_r28 : List Cond := [Cond.code yX10_why cX10_why 5 (some .int), Cond.methodLink RX10 184 yX9_culpritOf, Cond.instanceMethod yX9_culpritOf, Cond.selects RX9 yX9_culpritOf yX9_culpritOf, Cond.code yX9_culpritOf cX9_culpritOf 3 (some .int), Cond.methodLink RX10 187 yX9_resultOf, Cond.methodLink RX10 190 yX9_firstOtherAnswer, Cond.methodLink RX10 285 yX10_digestOfName, Cond.instanceMethod yX10_digestOfName, Cond.selects RX10 yX10_digestOfName yX10_digestOfName, Cond.code yX10_digestOfName cX10_digestOfName 8 (some .long), Cond.methodLink RX10 289 yX10_within, Cond.instanceMethod yX10_within, Cond.selects RX10 yX10_within yX10_within, Cond.code yX10_within cX10_within 4 (some .int), Cond.fieldLink RX10 142 "CutoffMill$Names" "within" "[I", Cond.methodLink RX10 292 yX10_outside, Cond.instanceMethod yX10_outside, Cond.selects RX10 yX10_outside yX10_outside, Cond.code yX10_outside cX10_outside 5 (some .int), Cond.fieldLink RX10 149 "CutoffMill$Names" "outside" "[I", Cond.methodLink RX10 294 yX10_built, Cond.methodLink RX10 297 yX10_run, Cond.methodLink RX10 266 yX10_fault]
def wsL_law0_r29 : List Cond := [Cond.methodLink RX10 269 yX10_wouldBuild, Cond.methodLink RX10 272 yX10_rounds, Cond.methodLink RX10 275 yX10_isAsNew, Cond.methodLink RL 58 yX10_builtBy, Cond.instanceMethod yX10_builtBy, Cond.selects RX10 yX10_builtBy yX10_builtBy, Cond.code yX10_builtBy cX10_builtBy 5 (some .int), Cond.fieldLink RX10 248 "CutoffMill$Works" "texts" "LCutoffMill$Texts;", Cond.methodLink RX10 249 yX1_withNumber, Cond.static yX1_withNumber, Cond.code yX1_withNumber cX1_withNumber 2 (some .int)]
def wsL_law0 : List Cond := (wsL_law0_r1 ++ (wsL_law0_r2 ++ (wsL_law0_r3 ++ (wsL_law0_r4 ++ (wsL_law0_r5 ++ (wsL_law0_r6 ++ (wsL_law0_r7 ++ (wsL_law0_r8 ++ (wsL_law0_r9 ++ (wsL_law0_r10 ++ (wsL_law0_r11 ++ (wsL_law0_r12 ++ (wsL_law0_r13 ++ (wsL_law0_r14 ++ (wsL_law0_r15 ++ (wsL_law0_r16 ++ (wsL_law0_r17 ++ (wsL_law0_r18 ++ (wsL_law0_r19 ++ (wsL_law0_r20 ++ (wsL_law0_r21 ++ (wsL_law0_r22 ++ (wsL_law0_r23 ++ (wsL_law0_r24 ++ (wsL_law0_r25 ++ (wsL_law0_r26 ++ (wsL_law0_r27 ++ (wsL_law0_r28 ++ wsL_law0_r29)))))))))))))))))))))))))))) ++ wsX100 ++ wsX80 ++ wsX40 ++ wsX60 ++ wsX90 ++ wsX70 ++ wsX50 ++ wsX30 ++ ([] : List Cond)
abbrev vwCl : List vw_C := [(RX3, TX3, 8), (RX4, TX4, 8), (RX5, TX5, 10), (RX6, TX6, 7), (RX7, TX7, 2), (RX8, TX8, 4), (RX9, TX9, 8), (RX10, TX10, 11)]
end
section
/-! MEMORY. A mill's cells have numbers 0 to 439 (Γ.2.2 gives the address); 'desc' says what a cell is: kind (0 row of ints, 1 of longs, 2 of booleans, 3 of results, 4 object), component (of an object: its class in vwCl), owner, length. A state gives by component, owner and place: ints (booleans too), longs, results. -/
abbrev Sg : Type := (Nat → Nat → Nat → Int32) × (Nat → Nat → Nat → Int64) × (Nat → Nat → Nat → Option Nat)
abbrev GG : Type := va_G × (Nat → ClassId) × (Nat → Nat)
def kT (t : Nat) : Nat := 42 + 4 * t
def kW (w : Nat) : Nat := 18 + 12 * w
def kR (r : Nat) : Nat := 170 + 9 * r
abbrev adr (Γ : GG) (k : Nat) : Nat := Γ.2.2 k
def desc (k : Nat) : Nat × Nat × Nat × Nat :=
  if k < 18 then (match k with
    | 0 => (4, 7, 0, 0) | 1 => (0, 0, 0, 800) | 2 => (0, 1, 0, 8) | 3 => (0, 2, 0, 8)
    | 4 => (4, 1, 0, 0) | 5 => (0, 6, 0, 128) | 6 => (0, 7, 0, 128) | 7 => (0, 8, 0, 64) | 8 => (0, 9, 0, 128) | 9 => (0, 10, 0, 128) | 10 => (0, 11, 0, 8) | 11 => (0, 12, 0, 8)
    | 12 => (4, 3, 0, 0) | 13 => (0, 13, 0, 8) | 14 => (0, 14, 0, 8) | 15 => (0, 15, 0, 8) | 16 => (0, 16, 0, 8) | _ => (0, 17, 0, 8))
  else if k < 42 then (match (k - 18) % 12 with
    | 0 => (4, 6, (k - 18) / 12, 0) | 1 => (4, 4, (k - 18) / 12, 0) | 2 => (3, 1, (k - 18) / 12, if (k - 18) / 12 = 0 then 10 else 0)
    | 3 => (3, 0, (k - 18) / 12, 8) | 4 => (3, 3, (k - 18) / 12, if (k - 18) / 12 = 0 then 19 else 9)
    | 5 => (4, 0, (k - 18) / 12, 0) | 6 => (3, 2, (k - 18) / 12, 8) | 7 => (0, 21, (k - 18) / 12, 128) | 8 => (0, 22, (k - 18) / 12, 256)
    | 9 => (2, 23, (k - 18) / 12, 128) | 10 => (0, 24, (k - 18) / 12, 128) | _ => (2, 25, (k - 18) / 12, 128))
  else if k < 170 then (match (k - 42) % 4 with
    | 0 => (4, 5, (k - 42) / 4, 0) | 1 => (0, 26, (k - 42) / 4, 128) | 2 => (0, 27, (k - 42) / 4, 40) | _ => (0, 28, (k - 42) / 4, 8))
  else (match (k - 170) % 9 with
    | 0 => (4, 2, (k - 170) / 9, 0) | 1 => (1, 0, (k - 170) / 9, 128) | 2 => (1, 1, (k - 170) / 9, 128) | 3 => (0, 31, (k - 170) / 9, 128)
    | 4 => (2, 32, (k - 170) / 9, 128) | 5 => (2, 33, (k - 170) / 9, 128) | 6 => (0, 34, (k - 170) / 9, 128) | 7 => (0, 35, (k - 170) / 9, 128) | _ => (0, 36, (k - 170) / 9, 128))
/-- the cell back from kind, component and owner -/
def undesc (q : Nat × Nat × Nat) : Nat := match q with
  | (1, c, o) => kR o + 1 + c
  | (3, c, o) => (match c with | 0 => kW o + 3 | 1 => kW o + 2 | 2 => kW o + 6 | _ => kW o + 4)
  | (4, c, o) => (match c with | 0 => kW o + 5 | 1 => 4 | 2 => kR o | 3 => 12 | 4 => kW o + 1 | 5 => kT o | 6 => kW o | _ => 0)
  | (_, c, o) => if c < 18 then (if c < 3 then c + 1 else if c < 13 then c - 1 else c) else if c < 26 then kW o + (c - 14) else if c < 29 then kT o + (c - 25) else kR o + (c - 28)
/-- kinds 0 and 2 lie in one store -/
def kd (n : Nat) : Nat := if n = 2 then 0 else n
theorem undesc_desc : ∀ k, k < 440 → undesc (kd (desc k).1, (desc k).2.1, (desc k).2.2.1) = k := by decide +kernel
/-- components of rows are no components of fields -/
def fldC (c : Nat) : Bool := c == 3 || c == 4 || c == 5 || c == 18 || c == 19 || c == 20 || c == 29 || c == 30
theorem desc_fld : ∀ k, k < 440 → kd (desc k).1 = 0 → fldC (desc k).2.1 = false := by decide +kernel
theorem desc_cls : ∀ k, k < 440 → (desc k).1 < 5 := by decide +kernel
def rrow (Γ : GG) (σ : Sg) (c o : Nat) : Nat → Option Nat := fun i => (σ.2.2 c o i).map (fun r => adr Γ (kR r))
def objF (Γ : GG) (σ : Sg) (ci o : Nat) : List Value := match ci with
  | 0 => [.ref (adr Γ 4), .ref (adr Γ (kW o + 6)), .ref (adr Γ (kW o + 7)), .int (σ.1 20 o 0), .ref (adr Γ (kW o + 8)), .ref (adr Γ (kW o + 9)), .ref (adr Γ (kW o + 10)), .ref (adr Γ (kW o + 11))]
  | 1 => [.ref (adr Γ (kT 0)), .ref (adr Γ 5), .ref (adr Γ 6), .ref (adr Γ 7), .ref (adr Γ 8), .ref (adr Γ 9), .ref (adr Γ 10), .ref (adr Γ 11)]
  | 2 => [.int (σ.1 30 o 0), .ref (adr Γ (kT (o + 2))), .ref (adr Γ (kR o + 1)), .ref (adr Γ (kR o + 2)), .ref (adr Γ (kR o + 3)), .ref (adr Γ (kR o + 4)), .ref (adr Γ (kR o + 5)), .ref (adr Γ (kR o + 6)), .ref (adr Γ (kR o + 7)), .ref (adr Γ (kR o + 8))]
  | 3 => [.ref (adr Γ (kT 0)), .ref (adr Γ 13), .ref (adr Γ 14), .ref (adr Γ 15), .ref (adr Γ 16), .ref (adr Γ 17), .int (σ.1 18 0 0)]
  | 4 => [.ref (adr Γ (kW o + 2)), .int (σ.1 19 o 0)]
  | 5 => [.ref (adr Γ (kT o + 1)), .ref (adr Γ (kT o + 2)), .ref (adr Γ (kT o + 3)), .int (σ.1 29 o 0)]
  | 6 => [.ref (adr Γ (kT o)), .ref (adr Γ 4), .ref (adr Γ 12), .ref (adr Γ (kW o + 5)), .ref (adr Γ (kW o + 1)), .ref (adr Γ (kW o + 3)), .ref (adr Γ (kR (20 * o))), .ref (adr Γ (kW o + 4))]
  | _ => [.ref (adr Γ (kT 0)), .ref (adr Γ 4), .ref (adr Γ 12), .ref (adr Γ (kW 0)), .ref (adr Γ (kW 1)), .ref (adr Γ 1), .ref (adr Γ 2), .ref (adr Γ 3), .int (σ.1 3 0 0), .int (σ.1 4 0 0), .int (σ.1 5 0 0)]
def cellQ (Γ : GG) (σ : Sg) (q : Nat × Nat × Nat × Nat) : va_E := match q with
  | (0, c, o, n) => .inl (Γ.2.1 0, n, .inl (σ.1 c o))
  | (1, c, o, n) => .inl (Γ.2.1 1, n, .inr (.inl (σ.2.1 c o)))
  | (2, c, o, n) => .inl (Γ.2.1 2, n, .inl (σ.1 c o))
  | (3, c, o, n) => .inl (Γ.2.1 3, n, .inr (.inr (.inr (.inr (rrow Γ σ c o)))))
  | (_, c, o, _) => .inr (c, objF Γ σ c o)
abbrev wd (Γ : GG) (σ : Sg) : va_W := (List.range 440).map (fun k => (adr Γ k, cellQ Γ σ (desc k)))
abbrev tyl (Γ : GG) : List (ClassId × FieldType) := [(Γ.2.1 0, .int), (Γ.2.1 1, .long), (Γ.2.1 2, .boolean), (Γ.2.1 3, .object RX5)]
/-- a row, a field, one place written -/
def rowI (σ : Sg) (c o : Nat) (f : Nat → Int32) : Sg := (fun c' o' => if c' = c ∧ o' = o then f else σ.1 c' o', σ.2)
def rowJ (σ : Sg) (c o : Nat) (f : Nat → Int64) : Sg := (σ.1, fun c' o' => if c' = c ∧ o' = o then f else σ.2.1 c' o', σ.2.2)
def rowP (σ : Sg) (c o : Nat) (f : Nat → Option Nat) : Sg := (σ.1, σ.2.1, fun c' o' => if c' = c ∧ o' = o then f else σ.2.2 c' o')
def wI (σ : Sg) (c o i : Nat) (v : Int32) : Sg := rowI σ c o (upd (σ.1 c o) i v)
def wJ (σ : Sg) (c o i : Nat) (v : Int64) : Sg := rowJ σ c o (vp_updL (σ.2.1 c o) i v)
def wP (σ : Sg) (c o i : Nat) (r : Nat) : Sg := rowP σ c o (va_up (σ.2.2 c o) i (some r))
theorem wd_get {Γ : GG} {σ : Sg} {k : Nat} (h : k < 440) : (wd Γ σ)[k]? = some (adr Γ k, cellQ Γ σ (desc k)) := by
  rw [List.getElem?_map, List.getElem?_range h]; rfl
theorem wd_len (Γ : GG) (σ : Sg) : (wd Γ σ).length = 440 := by simp [wd]
theorem wd_set {Γ : GG} {σ σ' : Sg} {k : Nat} (hk : k < 440) (h : ∀ j, j < 440 → j ≠ k → cellQ Γ σ' (desc j) = cellQ Γ σ (desc j)) : (wd Γ σ).set k (adr Γ k, cellQ Γ σ' (desc k)) = wd Γ σ' := by
  apply List.ext_getElem?
  intro j
  by_cases hj : j < 440
  · by_cases e : j = k
    · subst e
      rw [List.getElem?_set_self (by rw [wd_len]; exact hj), wd_get hj]
    · rw [List.getElem?_set_ne (Ne.symm e), wd_get hj, wd_get hj, h j hj e]
  · rw [List.getElem?_eq_none (by rw [List.length_set, wd_len]; omega), List.getElem?_eq_none (by rw [wd_len]; omega)]
theorem cellQ_ne {Γ : GG} {σ σ' : Sg} {q : Nat × Nat × Nat × Nat} (h0 : kd q.1 = 0 → σ'.1 q.2.1 q.2.2.1 = σ.1 q.2.1 q.2.2.1) (h1 : q.1 = 1 → σ'.2.1 q.2.1 q.2.2.1 = σ.2.1 q.2.1 q.2.2.1) (h3 : q.1 = 3 → σ'.2.2 q.2.1 q.2.2.1 = σ.2.2 q.2.1 q.2.2.1) (h4 : 4 ≤ q.1 → objF Γ σ' q.2.1 q.2.2.1 = objF Γ σ q.2.1 q.2.2.1) : cellQ Γ σ' q = cellQ Γ σ q := by
  obtain ⟨a, c, o, n⟩ := q
  dsimp only at h0 h1 h3 h4
  match a, h0, h1, h3, h4 with
  | 0, h0, _, _, _ => simp only [cellQ]; rw [h0 rfl]
  | 1, _, h1, _, _ => simp only [cellQ]; rw [h1 rfl]
  | 2, h0, _, _, _ => simp only [cellQ]; rw [h0 rfl]
  | 3, _, _, h3, _ =>
    have e : rrow Γ σ' c o = rrow Γ σ c o := by funext i; unfold rrow; rw [h3 rfl]
    simp only [cellQ]; rw [e]
  | a + 4, _, _, _, h4 => simp only [cellQ]; rw [h4 (by omega)]
theorem objF_ne {Γ : GG} {σ σ' : Sg} (h : ∀ c o, fldC c = true → σ'.1 c o 0 = σ.1 c o 0) (ci o : Nat) : objF Γ σ' ci o = objF Γ σ ci o := by
  unfold objF
  split <;> simp only [h 20 o rfl, h 30 o rfl, h 18 0 rfl, h 19 o rfl, h 29 o rfl, h 3 0 rfl, h 4 0 rfl, h 5 0 rfl]
theorem kd_inj {j k : Nat} (hj : j < 440) (hk : k < 440) (h1 : kd (desc j).1 = kd (desc k).1) (h2 : (desc j).2.1 = (desc k).2.1) (h3 : (desc j).2.2.1 = (desc k).2.2.1) : j = k := by
  rw [← undesc_desc j hj, ← undesc_desc k hk, h1, h2, h3]
theorem wd_rowI {Γ : GG} {σ : Sg} {k x c o n : Nat} {f : Nat → Int32} (hk : k < 440) (hd : desc k = (x, c, o, n)) (hx : x = 0 ∨ x = 2) : (wd Γ σ).set k (adr Γ k, .inl (Γ.2.1 x, n, .inl f)) = wd Γ (rowI σ c o f) := by
  have hkd : kd (desc k).1 = 0 := by rw [hd]; rcases hx with rfl | rfl <;> rfl
  have e : va_E := .inl (Γ.2.1 x, n, .inl f)
  have h9 : cellQ Γ (rowI σ c o f) (desc k) = .inl (Γ.2.1 x, n, .inl f) := by
    rw [hd]
    rcases hx with rfl | rfl <;> simp [cellQ, rowI]
  rw [← h9]
  refine wd_set hk (fun j hj hne => cellQ_ne (fun h0 => ?_) (fun _ => rfl) (fun _ => rfl) (fun _ => objF_ne (fun c' o' hc => ?_) _ _))
  · show (if _ ∧ _ then _ else _) = _
    rw [if_neg]
    rintro ⟨h2, h3⟩
    exact hne (kd_inj hj hk (by rw [h0, hkd]) (by rw [h2, hd]) (by rw [h3, hd]))
  · show (if c' = c ∧ o' = o then f else σ.1 c' o') 0 = _
    rw [if_neg]
    rintro ⟨h2, h3⟩
    have := desc_fld k hk hkd
    rw [hd] at this
    rw [h2] at hc
    rw [hc] at this
    cases this
theorem wd_rowJ {Γ : GG} {σ : Sg} {k c o n : Nat} {f : Nat → Int64} (hk : k < 440) (hd : desc k = (1, c, o, n)) : (wd Γ σ).set k (adr Γ k, .inl (Γ.2.1 1, n, .inr (.inl f))) = wd Γ (rowJ σ c o f) := by
  have h9 : cellQ Γ (rowJ σ c o f) (desc k) = .inl (Γ.2.1 1, n, .inr (.inl f)) := by
    rw [hd]; simp [cellQ, rowJ]
  rw [← h9]
  refine wd_set hk (fun j hj hne => cellQ_ne (fun h0 => rfl) (fun h1 => ?_) (fun _ => rfl) (fun _ => objF_ne (fun c' o' hc => rfl) _ _))
  show (if _ ∧ _ then _ else _) = _
  rw [if_neg]
  rintro ⟨h2, h3⟩
  exact hne (kd_inj hj hk (by rw [h1, hd]) (by rw [h2, hd]) (by rw [h3, hd]))
theorem wd_rowP {Γ : GG} {σ : Sg} {k c o n : Nat} {f : Nat → Option Nat} (hk : k < 440) (hd : desc k = (3, c, o, n)) : (wd Γ σ).set k (adr Γ k, .inl (Γ.2.1 3, n, .inr (.inr (.inr (.inr (fun i => (f i).map (fun r => adr Γ (kR r)))))))) = wd Γ (rowP σ c o f) := by
  have h9 : cellQ Γ (rowP σ c o f) (desc k) = .inl (Γ.2.1 3, n, .inr (.inr (.inr (.inr (fun i => (f i).map (fun r => adr Γ (kR r))))))) := by
    rw [hd]
    have e : rrow Γ (rowP σ c o f) c o = fun i => (f i).map (fun r => adr Γ (kR r)) := by funext i; simp [rrow, rowP]
    simp only [cellQ, e]
  rw [← h9]
  refine wd_set hk (fun j hj hne => cellQ_ne (fun h0 => rfl) (fun h1 => rfl) (fun h3' => ?_) (fun _ => objF_ne (fun c' o' hc => rfl) _ _))
  show (if _ ∧ _ then _ else _) = _
  rw [if_neg]
  rintro ⟨h2, h3⟩
  exact hne (kd_inj hj hk (by rw [h3', hd]) (by rw [h2, hd]) (by rw [h3, hd]))
/-- the int fields: class, place in the object, component -/
def fldOf (c : Nat) : Nat × Nat := match c with
  | 3 => (7, 8) | 4 => (7, 9) | 5 => (7, 10) | 18 => (3, 6) | 19 => (4, 1) | 20 => (0, 3) | 29 => (5, 3) | _ => (2, 0)
theorem objF_set {Γ : GG} {σ : Sg} {c o : Nat} {v : Int32} (hc : fldC c = true) (ho : (fldOf c).1 = 7 ∨ (fldOf c).1 = 3 → o = 0) : (objF Γ σ (fldOf c).1 o).set (fldOf c).2 (.int v) = objF Γ (wI σ c o 0 v) (fldOf c).1 o := by
  have h : c = 3 ∨ c = 4 ∨ c = 5 ∨ c = 18 ∨ c = 19 ∨ c = 20 ∨ c = 29 ∨ c = 30 := by
    simp only [fldC, Bool.or_eq_true, beq_iff_eq] at hc; omega
  rcases h with rfl | rfl | rfl | rfl | rfl | rfl | rfl | rfl
  all_goals first
    | (have h0 : o = 0 := ho (by decide)
       subst h0
       simp [objF, fldOf, wI, rowI, upd])
    | simp [objF, fldOf, wI, rowI, upd]
theorem objF_other {Γ : GG} {σ : Sg} {c o ci o' : Nat} {v : Int32} (hc : fldC c = true) (hci : ci < 8) (hne : ¬ (ci = (fldOf c).1 ∧ o' = o)) (ho : ci = 7 ∨ ci = 3 → o' = 0) : objF Γ (wI σ c o 0 v) ci o' = objF Γ σ ci o' := by
  have h : c = 3 ∨ c = 4 ∨ c = 5 ∨ c = 18 ∨ c = 19 ∨ c = 20 ∨ c = 29 ∨ c = 30 := by
    simp only [fldC, Bool.or_eq_true, beq_iff_eq] at hc; omega
  have h2 : ci = 0 ∨ ci = 1 ∨ ci = 2 ∨ ci = 3 ∨ ci = 4 ∨ ci = 5 ∨ ci = 6 ∨ ci = 7 := by omega
  rcases h2 with rfl | rfl | rfl | rfl | rfl | rfl | rfl | rfl <;> rcases h with rfl | rfl | rfl | rfl | rfl | rfl | rfl | rfl <;> simp [fldOf] at hne ho <;> simp [objF, wI, rowI, upd] <;> (try subst ho) <;> (try simp_all) <;> (try omega)
theorem desc_obj : ∀ k, k < 440 → (desc k).1 = 4 → (desc k).2.1 < 8 ∧ ((desc k).2.1 = 7 ∨ (desc k).2.1 = 3 → (desc k).2.2.1 = 0) := by decide +kernel
theorem wd_fld {Γ : GG} {σ : Sg} {k c o n : Nat} {v : Int32} (hk : k < 440) (hc : fldC c = true) (hd : desc k = (4, (fldOf c).1, o, n)) : (wd Γ σ).set k (adr Γ k, .inr ((fldOf c).1, (objF Γ σ (fldOf c).1 o).set (fldOf c).2 (.int v))) = wd Γ (wI σ c o 0 v) := by
  have hob := desc_obj k hk (by rw [hd])
  rw [hd] at hob
  have h9 : cellQ Γ (wI σ c o 0 v) (desc k) = .inr ((fldOf c).1, (objF Γ σ (fldOf c).1 o).set (fldOf c).2 (.int v)) := by
    rw [hd, objF_set hc hob.2]; rfl
  rw [← h9]
  refine wd_set hk (fun j hj hne => cellQ_ne (fun h0 => ?_) (fun h1 => rfl) (fun h3 => rfl) (fun h4 => ?_))
  · show (if _ ∧ _ then _ else _) = _
    rw [if_neg]
    rintro ⟨h2, h3⟩
    have := desc_fld j hj h0
    rw [h2, hc] at this
    cases this
  · have h5 : (desc j).1 = 4 := by have := desc_cls j hj; omega
    have hoj := desc_obj j hj h5
    exact objF_other hc hoj.1 (fun ⟨e1, e2⟩ => hne (kd_inj hj hk (by rw [h5, hd]) (by rw [e1, hd]) (by rw [e2, hd]))) hoj.2
-- where the cells lie
theorem kT_lt {t : Nat} (h : t < 32) : kT t < 440 := by unfold kT; omega
theorem kW_lt {w : Nat} (h : w < 2) : kW w < 440 := by unfold kW; omega
theorem kR_lt {r : Nat} (h : r < 30) : kR r < 440 := by unfold kR; omega
theorem dT0 : ∀ t, t < 32 → desc (kT t) = (4, 5, t, 0) := by decide +kernel
theorem dT1 : ∀ t, t < 32 → desc (kT t + 1) = (0, 26, t, 128) := by decide +kernel
theorem dT2 : ∀ t, t < 32 → desc (kT t + 2) = (0, 27, t, 40) := by decide +kernel
theorem dT3 : ∀ t, t < 32 → desc (kT t + 3) = (0, 28, t, 8) := by decide +kernel
theorem lT1 : ∀ t, t < 32 → kT t + 1 < 440 := by decide +kernel
theorem lT2 : ∀ t, t < 32 → kT t + 2 < 440 := by decide +kernel
theorem lT3 : ∀ t, t < 32 → kT t + 3 < 440 := by decide +kernel
def lenP (c w : Nat) : Nat := match c with | 0 => 8 | 1 => (if w = 0 then 10 else 0) | 2 => 8 | _ => (if w = 0 then 19 else 9)
theorem dW0 : ∀ w, w < 2 → desc (kW w) = (4, 6, w, 0) := by decide +kernel
theorem dW1 : ∀ w, w < 2 → desc (kW w + 1) = (4, 4, w, 0) := by decide +kernel
theorem dW2 : ∀ w, w < 2 → desc (kW w + 2) = (3, 1, w, lenP 1 w) := by decide +kernel
theorem dW3 : ∀ w, w < 2 → desc (kW w + 3) = (3, 0, w, lenP 0 w) := by decide +kernel
theorem dW4 : ∀ w, w < 2 → desc (kW w + 4) = (3, 3, w, lenP 3 w) := by decide +kernel
theorem dW5 : ∀ w, w < 2 → desc (kW w + 5) = (4, 0, w, 0) := by decide +kernel
theorem dW6 : ∀ w, w < 2 → desc (kW w + 6) = (3, 2, w, lenP 2 w) := by decide +kernel
theorem dW7 : ∀ w, w < 2 → desc (kW w + 7) = (0, 21, w, 128) := by decide +kernel
theorem dW8 : ∀ w, w < 2 → desc (kW w + 8) = (0, 22, w, 256) := by decide +kernel
theorem dW9 : ∀ w, w < 2 → desc (kW w + 9) = (2, 23, w, 128) := by decide +kernel
theorem dW10 : ∀ w, w < 2 → desc (kW w + 10) = (0, 24, w, 128) := by decide +kernel
theorem dW11 : ∀ w, w < 2 → desc (kW w + 11) = (2, 25, w, 128) := by decide +kernel
theorem lW : ∀ w, w < 2 → ∀ j, j < 12 → kW w + j < 440 := by decide +kernel
theorem dR0 : ∀ r, r < 30 → desc (kR r) = (4, 2, r, 0) := by decide +kernel
theorem dR1 : ∀ r, r < 30 → desc (kR r + 1) = (1, 0, r, 128) := by decide +kernel
theorem dR2 : ∀ r, r < 30 → desc (kR r + 2) = (1, 1, r, 128) := by decide +kernel
theorem dR3 : ∀ r, r < 30 → desc (kR r + 3) = (0, 31, r, 128) := by decide +kernel
theorem dR4 : ∀ r, r < 30 → desc (kR r + 4) = (2, 32, r, 128) := by decide +kernel
theorem dR5 : ∀ r, r < 30 → desc (kR r + 5) = (2, 33, r, 128) := by decide +kernel
theorem dR6 : ∀ r, r < 30 → desc (kR r + 6) = (0, 34, r, 128) := by decide +kernel
theorem dR7 : ∀ r, r < 30 → desc (kR r + 7) = (0, 35, r, 128) := by decide +kernel
theorem dR8 : ∀ r, r < 30 → desc (kR r + 8) = (0, 36, r, 128) := by decide +kernel
theorem lR : ∀ r, r < 30 → ∀ j, j < 9 → kR r + j < 440 := by decide +kernel
end
section
/-! ROWS over the whole memory: one for each kind of access, call and end -/
abbrev wL : List Cond := wsL_law0
theorem inlX3 : ∀ w ∈ wsX30, w ∈ wL := fun _ h => List.mem_append_left _ (List.mem_append_right _ h)
theorem inlX4 : ∀ w ∈ wsX40, w ∈ wL := fun _ h => List.mem_append_left _ (List.mem_append_left _ (List.mem_append_left _ (List.mem_append_left _ (List.mem_append_left _ (List.mem_append_left _ (List.mem_append_right _ h))))))
theorem inlX5 : ∀ w ∈ wsX50, w ∈ wL := fun _ h => List.mem_append_left _ (List.mem_append_left _ (List.mem_append_right _ h))
theorem inlX6 : ∀ w ∈ wsX60, w ∈ wL := fun _ h => List.mem_append_left _ (List.mem_append_left _ (List.mem_append_left _ (List.mem_append_left _ (List.mem_append_left _ (List.mem_append_right _ h)))))
theorem inlX7 : ∀ w ∈ wsX70, w ∈ wL := fun _ h => List.mem_append_left _ (List.mem_append_left _ (List.mem_append_left _ (List.mem_append_right _ h)))
theorem inlX8 : ∀ w ∈ wsX80, w ∈ wL := fun _ h => List.mem_append_left _ (List.mem_append_left _ (List.mem_append_left _ (List.mem_append_left _ (List.mem_append_left _ (List.mem_append_left _ (List.mem_append_left _ (List.mem_append_right _ h)))))))
theorem inlX9 : ∀ w ∈ wsX90, w ∈ wL := fun _ h => List.mem_append_left _ (List.mem_append_left _ (List.mem_append_left _ (List.mem_append_left _ (List.mem_append_right _ h))))
theorem inlX10 : ∀ w ∈ wsX100, w ∈ wL := fun _ h => List.mem_append_left _ (List.mem_append_left _ (List.mem_append_left _ (List.mem_append_left _ (List.mem_append_left _ (List.mem_append_left _ (List.mem_append_left _ (List.mem_append_left _ (List.mem_append_right _ h))))))))
theorem wL_good : wL.all goodWord = true := by decide +kernel
def IJ (Γ : GG) : Prop := ∀ i j, i < 440 → j < 440 → adr Γ i = adr Γ j → i = j
def IA (Γ : GG) : Nat → Prop := fun q => ∃ k, k < 440 ∧ q = adr Γ k
/-- a nest mate's private method -/
abbrev wN : Cond := .methodLinkNest RX3 108 yX10_clear RX10
def CP (Γ : GG) (σ : Sg) (U : State) : Prop := va_P Γ.1 vwCl (wd Γ σ) U.heap ∧ va_K Γ.1 vwCl (tyl Γ) U ∧ va_Nw wN U
/-- what a walk knows of its method -/
def MX (A : Nat → Prop) (Γ : GG) (p : Program) (s : State) (m : MethodId) (args : Array Value) (c : Code) (cc : ByteArray) (nL : Nat) (own : String) : Prop :=
  p.tables.exec = Jvm.exec ∧ c.code = cc ∧ c.maxLocals = nL ∧ s.vm.findClass own = some m.cls ∧ (∀ w ∈ wL, w.before args s = true) ∧ va_K Γ.1 vwCl (tyl Γ) s ∧ IJ Γ ∧ (∀ k, k < 440 → A (adr Γ k)) ∧ va_Nw wN s
/-- the memory at a moment -/
def HW (A : Nat → Prop) (Γ : GG) (σ : Sg) (H0 H : Heap) (locs : List Loc) : Prop := va_P Γ.1 vwCl (wd Γ σ) H ∧ va_S A H0 H locs
theorem wd_D {A : Nat → Prop} {Γ : GG} (σ : Sg) (hJ : IJ Γ) (hA : ∀ k, k < 440 → A (adr Γ k)) : va_D A (wd Γ σ) := by
  have key : ∀ (k : Nat) (q : Nat × va_E), (wd Γ σ)[k]? = some q → k < 440 ∧ q.1 = adr Γ k := by
    intro k q hk
    have hl := (List.getElem?_eq_some_iff.mp hk).1
    rw [wd_len] at hl
    rw [wd_get hl] at hk
    cases hk
    exact ⟨hl, rfl⟩
  refine ⟨fun i j x y hi hj hxy => ?_, fun k q hk => ?_⟩
  · obtain ⟨h1, h2⟩ := key i x hi
    obtain ⟨h3, h4⟩ := key j y hj
    exact hJ i j h1 h3 (by rw [← h2, ← h4, hxy])
  · obtain ⟨h1, h2⟩ := key k q hk
    rw [h2]; exact hA k h1
/-- a test; what it gives -/
def inb (x : Int32) (n : Nat) : Bool := decide (0 ≤ x.toInt) && decide (x.toInt < (n : Int))
theorem inb_vp {x : Int32} {n : Nat} (h : inb x n = true) : vp_in x n := by
  simp only [inb, Bool.and_eq_true, decide_eq_true_eq] at h
  exact vp_in_iff.mpr h
def chk {α : Type} (b : Bool) (k : Option α) : Option α := match b with
  | true => k
  | false => none
theorem chk_some {α : Type} {b : Bool} {k : Option α} {r : α} (h : chk b k = some r) : b = true ∧ k = some r := by
  cases b
  · cases h
  · exact ⟨rfl, h⟩
def bnd {α β : Type} (a : Option α) (k : α → Option β) : Option β := match a with
  | some x => k x
  | none => none
theorem bnd_some {α β : Type} {a : Option α} {k : α → Option β} {r : β} (h : bnd a k = some r) : ∃ x, a = some x ∧ k x = some r := by
  cases a with
  | none => cases h
  | some x => exact ⟨x, rfl, h⟩
def bnd2 {α β γ : Type} (a : Option (α × β)) (k : α → β → Option γ) : Option γ := match a with
  | some x => k x.1 x.2
  | none => none
theorem bnd2_some {α β γ : Type} {a : Option (α × β)} {k : α → β → Option γ} {r : γ} (h : bnd2 a k = some r) : ∃ x y, a = some (x, y) ∧ k x y = some r := by
  cases a with
  | none => cases h
  | some x => exact ⟨x.1, x.2, rfl, h⟩
def st {α β : Type} (x : α) (k : α → Option β) : Option β := k x
theorem st_some {α β : Type} {x : α} {k : α → Option β} {r : β} (h : st x k = some r) : ∃ y, y = x ∧ k y = some r := ⟨x, rfl, h⟩
theorem if_t {α : Type} {c : Prop} [Decidable c] {a b : Option α} {r : α} (h : (if c then a else b) = some r) (hc : c) : a = some r := by rwa [if_pos hc] at h
theorem if_f {α : Type} {c : Prop} [Decidable c] {a b : Option α} {r : α} (h : (if c then a else b) = some r) (hc : ¬ c) : b = some r := by rwa [if_neg hc] at h
def zb (x : Int32) : Bool := x == 0 || x == 1
theorem zb_nar {x : Int32} (h : zb x = true) : narrow .boolean (.int x) = .int x := by
  simp only [zb, Bool.or_eq_true, beq_iff_eq] at h
  rcases h with rfl | rfl <;> rfl
theorem zb_vp {x : Int32} (h : zb x = true) : vp_nar .boolean x = x := by
  simp only [zb, Bool.or_eq_true, beq_iff_eq] at h
  rcases h with rfl | rfl <;> rfl
section ROWS
variable {p : Program} {l : Launch} {e : Env} {R : Room} {s : State} {m : MethodId} {args : Array Value} {below : List Frame} {meth : Method} {c : Code} {H : Heap} {locs : List Loc} {cells slots : Nat} {Q : State → Prop}
variable {cc : ByteArray} {pc nL : Nat} {ls : Array Slot} {rest : List Value} {own : String} {A : Nat → Prop} {Γ : GG} {σ : Sg} {H0 : Heap}
theorem MX.hx (X : MX A Γ p s m args c cc nL own) : p.tables.exec = Jvm.exec := X.1
theorem MX.hb (X : MX A Γ p s m args c cc nL own) : c.code = cc := X.2.1
theorem MX.hts (X : MX A Γ p s m args c cc nL own) : ∀ w ∈ wL, w.before args s = true := X.2.2.2.2.1
theorem MX.D (X : MX A Γ p s m args c cc nL own) (σ : Sg) : va_D A (wd Γ σ) := wd_D σ X.2.2.2.2.2.2.1 X.2.2.2.2.2.2.2.1
theorem r_get (X : MX A Γ p s m args c cc nL own) (hH : HW A Γ σ H0 H locs) {k ci o n index N : Nat} {C : String} {T : u_T} (hk : k < 440) (hd : desc k = (4, ci, o, n)) (hc : vwCl[ci]? = some (C, T, N)) (hin : ∀ w ∈ u_ws C T N, w ∈ wL) (j : Nat) (hj : j < N) {v : Value} (hv : (objF Γ σ ci o)[j]? = some v)
    (hw : Cond.fieldLink own index (T j).1 (T j).2.1 (T j).2.2.1 ∈ wL) (hdg : decode cc pc = .ok (.getfield index, 3))
    (kk : W p l e R s m args below meth c H locs cells slots Q (F0 m (pc + 3) ls (v :: rest))) : W p l e R s m args below meth c H locs cells slots Q (F0 m pc ls (.ref (adr Γ k) :: rest)) := by
  refine va_get (ci := ci) X.1 X.2.1 X.2.2.2.2.1 hin X.2.2.2.1 X.2.2.2.2.2.1 hH.1 k (fs := objF Γ σ ci o) ?_ hc j hj (X.2.2.2.2.1 _ hw) (fun _ h => h) hv hdg kk
  rw [wd_get hk, hd]; rfl
theorem r_putI (X : MX A Γ p s m args c cc nL own) (hH : HW A Γ σ H0 H locs) {k co o n index N : Nat} {C : String} {T : u_T} (hk : k < 440) (hco : fldC co = true) (hd : desc k = (4, (fldOf co).1, o, n)) (hc : vwCl[(fldOf co).1]? = some (C, T, N)) (hin : ∀ w ∈ u_ws C T N, w ∈ wL) (ty0 : Nat → FieldType) (hty : ∀ k, k < N → parseFieldDescriptor (T k).2.2.1 = some (ty0 k)) (hnm : ∀ a, a < N → ∀ b, b < N → a ≠ b → (T a).2.1 ≠ (T b).2.1)
    (hj : (fldOf co).2 < N) (hl : (fldOf co).2 < (objF Γ σ (fldOf co).1 o).length) {v : Int32} (hfin : (T (fldOf co).2).2.2.2 = false) (hpd : parseFieldDescriptor (T (fldOf co).2).2.2.1 = some .int)
    (hw : Cond.fieldLink own index (T (fldOf co).2).1 (T (fldOf co).2).2.1 (T (fldOf co).2).2.2.1 ∈ wL) (hdg : decode cc pc = .ok (.putfield index, 3))
    (kk : ∀ H1 locs1, HW A Γ (wI σ co o 0 v) H0 H1 locs1 → W p l e R s m args below meth c H1 locs1 cells slots Q (F0 m (pc + 3) ls rest)) : W p l e R s m args below meth c H locs cells slots Q (F0 m pc ls (.int v :: .ref (adr Γ k) :: rest)) := by
  refine va_put (ci := (fldOf co).1) X.1 X.2.1 X.2.2.2.2.1 hin ty0 hty hnm X.2.2.2.1 X.2.2.2.2.2.1 hH.1 (X.D σ) hH.2 k (fs := objF Γ σ (fldOf co).1 o) ?_ hc (fldOf co).2 hj (X.2.2.2.2.1 _ hw) (fun _ h => h) hfin hpd rfl rfl hl hdg (fun H1 locs1 hP _ hS => kk H1 locs1 ⟨?_, hS⟩)
  · rw [wd_get hk, hd]; rfl
  · rw [wd_fld hk hco hd] at hP; exact hP
theorem r_ild (X : MX A Γ p s m args c cc nL own) (hH : HW A Γ σ H0 H locs) {k co o n : Nat} (hk : k < 440) (hd : desc k = (0, co, o, n)) {i : Int32} (hin : inb i n = true) (hdg : decode cc pc = .ok (.iaload, 1))
    (kk : W p l e R s m args below meth c H locs cells slots Q (F0 m (pc + 1) ls (.int (σ.1 co o i.toNatClampNeg) :: rest))) : W p l e R s m args below meth c H locs cells slots Q (F0 m pc ls (.int i :: .ref (adr Γ k) :: rest)) :=
  va_iald X.1 X.2.1 X.2.2.2.2.2.1 hH.1 k 0 (cA := Γ.2.1 0) (n := n) (f := σ.1 co o) (by rw [wd_get hk, hd]; rfl) rfl (inb_vp hin) hdg kk
theorem r_zld (X : MX A Γ p s m args c cc nL own) (hH : HW A Γ σ H0 H locs) {k co o n : Nat} (hk : k < 440) (hd : desc k = (2, co, o, n)) {i : Int32} (hin : inb i n = true) (hdg : decode cc pc = .ok (.baload, 1))
    (kk : W p l e R s m args below meth c H locs cells slots Q (F0 m (pc + 1) ls (.int (σ.1 co o i.toNatClampNeg) :: rest))) : W p l e R s m args below meth c H locs cells slots Q (F0 m pc ls (.int i :: .ref (adr Γ k) :: rest)) :=
  va_zald X.1 X.2.1 X.2.2.2.2.2.1 hH.1 k 2 (cA := Γ.2.1 2) (n := n) (f := σ.1 co o) (by rw [wd_get hk, hd]; rfl) rfl (inb_vp hin) hdg kk
theorem r_lld (X : MX A Γ p s m args c cc nL own) (hH : HW A Γ σ H0 H locs) {k co o n : Nat} (hk : k < 440) (hd : desc k = (1, co, o, n)) {i : Int32} (hin : inb i n = true) (hdg : decode cc pc = .ok (.laload, 1))
    (kk : W p l e R s m args below meth c H locs cells slots Q (F0 m (pc + 1) ls (.long (σ.2.1 co o i.toNatClampNeg) :: rest))) : W p l e R s m args below meth c H locs cells slots Q (F0 m pc ls (.int i :: .ref (adr Γ k) :: rest)) :=
  va_lald X.1 X.2.1 X.2.2.2.2.2.1 hH.1 k 1 (cA := Γ.2.1 1) (n := n) (f := σ.2.1 co o) (by rw [wd_get hk, hd]; rfl) rfl (inb_vp hin) hdg kk
theorem r_ald (X : MX A Γ p s m args c cc nL own) (hH : HW A Γ σ H0 H locs) {k co o n r : Nat} (hk : k < 440) (hd : desc k = (3, co, o, n)) {i : Int32} (hin : inb i n = true) (hr : σ.2.2 co o i.toNatClampNeg = some r) (hdg : decode cc pc = .ok (.aaload, 1))
    (kk : W p l e R s m args below meth c H locs cells slots Q (F0 m (pc + 1) ls (.ref (adr Γ (kR r)) :: rest))) : W p l e R s m args below meth c H locs cells slots Q (F0 m pc ls (.int i :: .ref (adr Γ k) :: rest)) := by
  refine va_aldq X.1 X.2.1 X.2.2.2.2.2.1 hH.1 k 3 (cA := Γ.2.1 3) (n := n) (f := rrow Γ σ co o) (by rw [wd_get hk, hd]; rfl) rfl (inb_vp hin) hdg ?_
  rw [rrow, hr]; exact kk
theorem r_ist (X : MX A Γ p s m args c cc nL own) (hH : HW A Γ σ H0 H locs) {k co o n : Nat} (hk : k < 440) (hd : desc k = (0, co, o, n)) {i x : Int32} (hin : inb i n = true) (hdg : decode cc pc = .ok (.iastore, 1))
    (kk : ∀ H1 locs1, HW A Γ (wI σ co o i.toNatClampNeg x) H0 H1 locs1 → W p l e R s m args below meth c H1 locs1 cells slots Q (F0 m (pc + 1) ls rest)) : W p l e R s m args below meth c H locs cells slots Q (F0 m pc ls (.int x :: .int i :: .ref (adr Γ k) :: rest)) :=
  va_iast X.1 X.2.1 X.2.2.2.2.2.1 hH.1 (X.D σ) hH.2 k 0 (cA := Γ.2.1 0) (n := n) (f := σ.1 co o) (by rw [wd_get hk, hd]; rfl) rfl (inb_vp hin) hdg (fun H1 locs1 hP _ hS => kk H1 locs1 ⟨by rw [wd_rowI hk hd (Or.inl rfl)] at hP; exact hP, hS⟩)
theorem r_zst (X : MX A Γ p s m args c cc nL own) (hH : HW A Γ σ H0 H locs) {k co o n : Nat} (hk : k < 440) (hd : desc k = (2, co, o, n)) {i x : Int32} (hin : inb i n = true) (hx : zb x = true) (hdg : decode cc pc = .ok (.bastore, 1))
    (kk : ∀ H1 locs1, HW A Γ (wI σ co o i.toNatClampNeg x) H0 H1 locs1 → W p l e R s m args below meth c H1 locs1 cells slots Q (F0 m (pc + 1) ls rest)) : W p l e R s m args below meth c H locs cells slots Q (F0 m pc ls (.int x :: .int i :: .ref (adr Γ k) :: rest)) :=
  va_zast X.1 X.2.1 X.2.2.2.2.2.1 hH.1 (X.D σ) hH.2 k 2 (cA := Γ.2.1 2) (n := n) (f := σ.1 co o) (by rw [wd_get hk, hd]; rfl) rfl (inb_vp hin) hdg (fun H1 locs1 hP _ hS => kk H1 locs1 ⟨by rw [zb_vp hx, wd_rowI hk hd (Or.inr rfl)] at hP; exact hP, hS⟩)
theorem r_lst (X : MX A Γ p s m args c cc nL own) (hH : HW A Γ σ H0 H locs) {k co o n : Nat} (hk : k < 440) (hd : desc k = (1, co, o, n)) {i : Int32} {x : Int64} (hin : inb i n = true) (hdg : decode cc pc = .ok (.lastore, 1))
    (kk : ∀ H1 locs1, HW A Γ (wJ σ co o i.toNatClampNeg x) H0 H1 locs1 → W p l e R s m args below meth c H1 locs1 cells slots Q (F0 m (pc + 1) ls rest)) : W p l e R s m args below meth c H locs cells slots Q (F0 m pc ls (.long x :: .int i :: .ref (adr Γ k) :: rest)) :=
  va_last X.1 X.2.1 X.2.2.2.2.2.1 hH.1 (X.D σ) hH.2 k 1 (cA := Γ.2.1 1) (n := n) (f := σ.2.1 co o) (by rw [wd_get hk, hd]; rfl) rfl (inb_vp hin) hdg (fun H1 locs1 hP _ hS => kk H1 locs1 ⟨by rw [wd_rowJ hk hd] at hP; exact hP, hS⟩)
theorem r_ast (X : MX A Γ p s m args c cc nL own) (hH : HW A Γ σ H0 H locs) {k co o n r : Nat} (hk : k < 440) (hd : desc k = (3, co, o, n)) {i : Int32} (hin : inb i n = true) (hr : r < 30) (hdg : decode cc pc = .ok (.aastore, 1))
    (kk : ∀ H1 locs1, HW A Γ (wP σ co o i.toNatClampNeg r) H0 H1 locs1 → W p l e R s m args below meth c H1 locs1 cells slots Q (F0 m (pc + 1) ls rest)) : W p l e R s m args below meth c H locs cells slots Q (F0 m pc ls (.ref (adr Γ (kR r)) :: .int i :: .ref (adr Γ k) :: rest)) := by
  refine va_astq X.1 X.2.1 X.2.2.2.2.2.1 hH.1 (X.D σ) hH.2 k 3 (kR r) 2 (cA := Γ.2.1 3) (n := n) (f := rrow Γ σ co o) (vs := objF Γ σ 2 r) (r := (RX5, TX5, 10)) (by rw [wd_get hk, hd]; rfl) rfl (by rw [wd_get (kR_lt hr), dR0 r hr]; rfl) rfl (inb_vp hin) hdg (fun H1 locs1 hP _ hS => kk H1 locs1 ⟨?_, hS⟩)
  have h9 : va_up (rrow Γ σ co o) i.toNatClampNeg (some (adr Γ (kR r))) = fun j => (va_up (σ.2.2 co o) i.toNatClampNeg (some r) j).map (fun r => adr Γ (kR r)) := by
    funext j
    unfold va_up rrow
    split <;> rfl
  rw [h9, wd_rowP hk hd] at hP
  exact hP
theorem r_len (X : MX A Γ p s m args c cc nL own) (hH : HW A Γ σ H0 H locs) {k kn co o n : Nat} (hk : k < 440) (hd : desc k = (kn, co, o, n)) (hkn : kn < 4) {v : Int32} (hv : Int32.ofNat n = v) (hdg : decode cc pc = .ok (.arraylength, 1))
    (kk : W p l e R s m args below meth c H locs cells slots Q (F0 m (pc + 1) ls (.int v :: rest))) : W p l e R s m args below meth c H locs cells slots Q (F0 m pc ls (.ref (adr Γ k) :: rest)) := by
  have h9 : ∃ x : vp_A, cellQ Γ σ (desc k) = .inl (Γ.2.1 kn, x) ∧ x.1 = n := by
    rw [hd]
    have h : kn = 0 ∨ kn = 1 ∨ kn = 2 ∨ kn = 3 := by omega
    rcases h with rfl | rfl | rfl | rfl <;> exact ⟨_, rfl, rfl⟩
  obtain ⟨x, h1, h2⟩ := h9
  have h3 : ∃ ty, (tyl Γ)[kn]? = some (Γ.2.1 kn, ty) := by
    have h : kn = 0 ∨ kn = 1 ∨ kn = 2 ∨ kn = 3 := by omega
    rcases h with rfl | rfl | rfl | rfl <;> exact ⟨_, rfl⟩
  obtain ⟨ty, h3⟩ := h3
  exact va_alen X.1 X.2.1 X.2.2.2.2.2.1 hH.1 k kn (cA := Γ.2.1 kn) (x := x) (by rw [wd_get hk, h1]) h3 (by rw [h2]; exact hv) hdg kk
theorem r_anelo (X : MX A Γ p s m args c cc nL own) {r1 r2 : Nat} (h1 : r1 < 30) (h2 : r2 < 30) {off : Int} {tgt : Nat} (hdg : decode cc pc = .ok (.if_acmp .ne off, 3)) (ht : (pc : Int) + off = (tgt : Int))
    (kt : ¬ r1 = r2 → W p l e R s m args below meth c H locs cells slots Q (F0 m tgt ls rest)) (kf : r1 = r2 → W p l e R s m args below meth c H locs cells slots Q (F0 m (pc + 3) ls rest)) : W p l e R s m args below meth c H locs cells slots Q (F0 m pc ls (.ref (adr Γ (kR r2)) :: .ref (adr Γ (kR r1)) :: rest)) :=
  lv_acmp_ne (rx := some (adr Γ (kR r1))) (ry := some (adr Γ (kR r2))) X.1 X.2.1 hdg ht (fun h => kt (fun q => h (by rw [q]))) (fun h => kf (by
    have := X.2.2.2.2.2.2.1 (kR r1) (kR r2) (kR_lt h1) (kR_lt h2) (Option.some.inj h)
    unfold kR at this; omega))
theorem r_copy (X : MX A Γ p s m args c cc nL own) (hml : c.maxLocals = ls.size) (hH : HW A Γ σ H0 H locs) {k0 k1 c0 c1 o0 o1 n index : Nat} (hk0 : k0 < 440) (hk1 : k1 < 440) (hd0 : desc k0 = (0, c0, o0, n)) (hd1 : desc k1 = (0, c1, o1, n)) {z : Int32} (hz : Int32.ofNat n = z) (hn : n < 2147483648) (hwl : Cond.methodLink own index arraycopyName ∈ wL) (hw1 : Cond.native arraycopyName ∈ wL) (hw2 : Cond.static arraycopyName ∈ wL) (hw3 : Cond.initialized "java/lang/System" ∈ wL)
    (hframes : 1 ≤ R.frames) (hlocals : (rest.map fun v => v.category).sum + (nativeFrameWords "java/lang/System" "arraycopy" 5 + 11) ≤ R.locals) (hdg : decode cc pc = .ok (.invokestatic index, 3))
    (kk : ∀ H1 locs1, HW A Γ (rowI σ c1 o1 (va_cpy (σ.1 c0 o0) (σ.1 c1 o1) 0 0 n)) H0 H1 locs1 → W p l e R s m args below meth c H1 locs1 cells slots Q (F0 m (pc + 3) ls rest)) : W p l e R s m args below meth c H locs cells slots Q (F0 m pc ls (.int z :: .int 0 :: .ref (adr Γ k1) :: .int 0 :: .ref (adr Γ k0) :: rest)) := by
  have hz1 : z.toNatClampNeg = n := by rw [← hz]; exact nI_clamp hn
  have hz2 : ¬ z < 0 := by rw [← hz]; exact nI_pos hn
  refine va_copyi X.1 X.2.1 hml X.2.2.2.1 (X.2.2.2.2.1 _ hwl) (X.2.2.2.2.1 _ hw1) (X.2.2.2.2.1 _ hw2) (X.2.2.2.2.1 _ hw3) X.2.2.2.2.2.1 hH.1 (X.D σ) hH.2 k0 k1 0 0 (c0 := Γ.2.1 0) (c1 := Γ.2.1 0) (n0 := n) (n1 := n) (f := σ.1 c0 o0) (g := σ.1 c1 o1) (by rw [wd_get hk0, hd0]; rfl) (by rw [wd_get hk1, hd1]; rfl) rfl rfl rfl (by decide) (by decide) hz2 (by rw [hz1]; simp) (by rw [hz1]; simp) (fun _ _ => rfl) hframes hlocals hdg (fun H1 locs1 hP _ hS => kk H1 locs1 ⟨?_, hS⟩)
  rw [hz1, wd_rowI hk1 hd1 (Or.inl rfl)] at hP
  exact hP
-- contracts
abbrev CI (l : Launch) (y : MethodName) (ws : List Cond) (rm : Room) (Γ : GG) (σ : Sg) (as : List Value) (σ' : Sg) (r : Int32) : Prop := Met l y ws rm (va_Pc as (CP Γ σ)) (va_Qi (fun (x : Int32) (_ : Unit) => x = r) (fun _ t => CP Γ σ' t) (IA Γ)) 0 0 (IA Γ)
abbrev CL (l : Launch) (y : MethodName) (ws : List Cond) (rm : Room) (Γ : GG) (σ : Sg) (as : List Value) (σ' : Sg) (r : Int64) : Prop := Met l y ws rm (va_Pc as (CP Γ σ)) (va_Ql (fun (x : Int64) (_ : Unit) => x = r) (fun _ t => CP Γ σ' t) (IA Γ)) 0 0 (IA Γ)
abbrev CV (l : Launch) (y : MethodName) (ws : List Cond) (rm : Room) (Γ : GG) (σ : Sg) (as : List Value) (σ' : Sg) (_ : Unit) : Prop := Met l y ws rm (va_Pc as (CP Γ σ)) (va_Qv (fun (_ : Unit) => True) (fun _ t => CP Γ σ' t) (IA Γ)) 0 0 (IA Γ)
abbrev CR (l : Launch) (y : MethodName) (ws : List Cond) (rm : Room) (Γ : GG) (σ : Sg) (as : List Value) (σ' : Sg) (r : Nat) : Prop := Met l y ws rm (va_Pc as (CP Γ σ)) (va_Qr (fun (_ : Unit) => True) (fun _ a t => a = adr Γ (kR r) ∧ CP Γ σ' t) (IA Γ)) 0 0 (IA Γ)
abbrev QI (Γ : GG) (σ' : Sg) (r : Int32) (below : List Frame) (args : Array Value) (s : State) : State → Prop := MQ below (va_Qi (fun (x : Int32) (_ : Unit) => x = r) (fun _ t => CP Γ σ' t) (IA Γ)) args s 0 0 (IA Γ)
abbrev QL (Γ : GG) (σ' : Sg) (r : Int64) (below : List Frame) (args : Array Value) (s : State) : State → Prop := MQ below (va_Ql (fun (x : Int64) (_ : Unit) => x = r) (fun _ t => CP Γ σ' t) (IA Γ)) args s 0 0 (IA Γ)
abbrev QV (Γ : GG) (σ' : Sg) (_ : Unit) (below : List Frame) (args : Array Value) (s : State) : State → Prop := MQ below (va_Qv (fun (_ : Unit) => True) (fun _ t => CP Γ σ' t) (IA Γ)) args s 0 0 (IA Γ)
abbrev QR (Γ : GG) (σ' : Sg) (r : Nat) (below : List Frame) (args : Array Value) (s : State) : State → Prop := MQ below (va_Qr (fun (_ : Unit) => True) (fun _ a t => a = adr Γ (kR r) ∧ CP Γ σ' t) (IA Γ)) args s 0 0 (IA Γ)
/-- .. in a method's own walk -/
def MB (Γ : GG) (p : Program) (s : State) (m : MethodId) (args : Array Value) (meth : Method) (c : Code) (cc : ByteArray) (nL : Nat) (own : String) (ret : Option FieldType) : Prop := MX (IA Γ) Γ p s m args c cc nL own ∧ meth.sig.returnType = ret ∧ meth.locks = false
theorem CP.of (X : MX A Γ p s m args c cc nL own) (hH : HW A Γ σ H0 H locs) {t : State} (ht : t.heap = H) (hW : s.WarmedH t.vm) : CP Γ σ t := ⟨by rw [ht]; exact hH.1, va_K.moved hW.alike X.2.2.2.2.2.1, va_Nw.warmM hW X.2.2.2.2.2.2.2.2⟩
theorem e_int {ret : FieldType} (X : MB Γ p s m args meth c cc nL own (some ret)) (hH : HW (IA Γ) Γ σ s.heap H locs) {v : Int32} (hn : narrow ret (.int v) = .int v) (hdg : decode cc pc = .ok (.ireturn, 1)) : W p l e R s m args below meth c H locs 0 0 (QI Γ σ v below args s) (F0 m pc ls [.int v]) :=
  W.zret X.1.1 X.1.2.1 X.2.1 hn (fun t ht hW => ⟨⟨v, (), rfl, rfl, CP.of X.1 hH ht hW⟩, hH.2.F ht⟩) hH.2.2.2 hdg (hlocks := X.2.2)
theorem e_long (X : MB Γ p s m args meth c cc nL own (some .long)) (hH : HW (IA Γ) Γ σ s.heap H locs) {v : Int64} (hdg : decode cc pc = .ok (.lreturn, 1)) : W p l e R s m args below meth c H locs 0 0 (QL Γ σ v below args s) (F0 m pc ls [.long v]) :=
  W.lret X.1.1 X.1.2.1 X.2.1 (fun t ht hW => ⟨⟨v, (), rfl, rfl, CP.of X.1 hH ht hW⟩, hH.2.F ht⟩) hH.2.2.2 hdg (hlocks := X.2.2)
theorem e_void (X : MB Γ p s m args meth c cc nL own none) (hH : HW (IA Γ) Γ σ s.heap H locs) {v : Unit} (hdg : decode cc pc = .ok (.return_, 1)) : W p l e R s m args below meth c H locs 0 0 (QV Γ σ v below args s) (F0 m pc ls []) :=
  W.vret X.1.1 X.1.2.1 X.2.1 (fun t ht hW => ⟨⟨(), rfl, trivial, CP.of X.1 hH ht hW⟩, hH.2.F ht⟩) hH.2.2.2 hdg (hlocks := X.2.2)
theorem e_ref {C : String} (X : MB Γ p s m args meth c cc nL own (some (.object C))) (hH : HW (IA Γ) Γ σ s.heap H locs) {r : Nat} (hdg : decode cc pc = .ok (.areturn, 1)) : W p l e R s m args below meth c H locs 0 0 (QR Γ σ r below args s) (F0 m pc ls [.ref (adr Γ (kR r))]) :=
  W.aret X.1.1 X.1.2.1 X.2.1 (Or.inl ⟨C, rfl⟩) (Or.inr ⟨_, rfl⟩) (fun t ht hW => ⟨⟨(), _, rfl, trivial, rfl, CP.of X.1 hH ht hW⟩, hH.2.F ht⟩) hH.2.2.2 hdg (hlocks := X.2.2)
-- calls
variable {y : MethodName} {bytes : ByteArray} {maxL n index : Nat} {ret : Option FieldType} {rm : Room} {As st0 : List Value} {σ' : Sg} {lv : List (Nat × Value)}
theorem cp_blind {as : List Value} : FrameBlind (va_Pc as (CP Γ σ)) := fun a U g mk q => ⟨q.1, q.2.1, va_K.moved (u := U) (U := U.calling g mk a) (Vm.Alike.refl U.vm) q.2.2.1, va_Nw.same (u := U) (U := U.calling g mk a) rfl rfl q.2.2.2⟩
theorem cp_pre (X : MX A Γ p s m args c cc nL own) (hH : HW A Γ σ H0 H locs) {as : List Value} : ∀ U : State, U.heap = H → s.WarmedH U.vm → va_Pc as (CP Γ σ) as.toArray U := fun U hU hW => ⟨rfl, CP.of X hH hU hW⟩
theorem ia_in (X : MX A Γ p s m args c cc nL own) : ∀ q, IA Γ q → A q := fun q ⟨k, hk, e⟩ => by rw [e]; exact X.2.2.2.2.2.2.2.1 k hk
/-- the words of a call: the callee's own code, then all the words -/
abbrev wy (y : MethodName) (bytes : ByteArray) (maxL : Nat) (ret : Option FieldType) : List Cond := .code y bytes maxL ret :: wL
theorem wy_good (hc : Cond.code y bytes maxL ret ∈ wL) : GoodIn wL (wy y bytes maxL ret) := fun w hw => by
  have hm : w ∈ wL := by
    rcases List.mem_cons.mp hw with rfl | h
    · exact hc
    · exact h
  exact ⟨hm, good_of_word (List.all_eq_true.mp wL_good w hm)⟩
theorem cw_V (X : MX A Γ p s m args c cc nL own) (n : Nat) (hc : Cond.code y bytes maxL ret ∈ wL) (h1 : Cond.methodLink own index y ∈ wL) (h2 : Cond.instanceMethod y ∈ wL) (h3 : Cond.selects y.cls y y ∈ wL) (h4 : Cond.initialized y.cls ∈ wL) (hrc : rm.cells = 0) (hrs : rm.slots = 0)
    (hd : y.cls ≠ "java/lang/invoke/MethodHandle" ∧ y.cls ≠ "java/lang/invoke/VarHandle" ∧ (parseMethodDescriptor y.desc).map (fun d => d.parameters.length) = some n) (hR : rm.frames + 1 ≤ R.frames ∧ 8 + (maxL + 11) + rm.locals ≤ R.locals) : CallW R s args own y.cls index y bytes maxL ret (wy y bytes maxL ret) rm 0 0 n :=
  ⟨callB_of n X.hts (wy_good hc) rfl hrc hrs (X.hts _ h4) (X.hts _ h1) hd hR, X.hts _ h2, X.hts _ h3⟩
theorem cw_S (X : MX A Γ p s m args c cc nL own) (n : Nat) (hc : Cond.code y bytes maxL ret ∈ wL) (h1 : Cond.methodLink own index y ∈ wL) (h2 : Cond.static y ∈ wL) (h4 : Cond.initialized y.cls ∈ wL) (hrc : rm.cells = 0) (hrs : rm.slots = 0)
    (hd : y.cls ≠ "java/lang/invoke/MethodHandle" ∧ y.cls ≠ "java/lang/invoke/VarHandle" ∧ (parseMethodDescriptor y.desc).map (fun d => d.parameters.length) = some n) (hR : rm.frames + 1 ≤ R.frames ∧ 8 + (maxL + 11) + rm.locals ≤ R.locals) : CallB R s args own index y bytes maxL ret (wy y bytes maxL ret) rm 0 0 n ∧ (Cond.static y).before args s = true :=
  ⟨callB_of n X.hts (wy_good hc) rfl hrc hrs (X.hts _ h4) (X.hts _ h1) hd hR, X.hts _ h2⟩
theorem r_recv (X : MX A Γ p s m args c cc nL own) (hH : HW A Γ σ H0 H locs) {k ci o z N : Nat} {C : String} {T : u_T} (hk : k < 440) (hd : desc k = (4, ci, o, z)) (hc : vwCl[ci]? = some (C, T, N)) : ∃ cell : Cell, H[adr Γ k]? = some cell ∧ cell.vm.isStatics = false ∧ s.vm.findClass C = some cell.cls :=
  va_recv X.2.2.2.2.2.1 hH.1 hc (q0 := k) (fs := objF Γ σ ci o) (by rw [wd_get hk, hd]; rfl)
theorem fix_of (X : MX A Γ p s m args c cc nL own) : CallFix p m c cc nL s args wL own := ⟨X.1, X.2.1, X.2.2.1, X.2.2.2.1, X.2.2.2.2.1⟩
theorem r_callVI (X : MX A Γ p s m args c cc nL own) (hl : lv_has ls nL lv) (hH : HW A Γ σ H0 H locs) {b : Nat} {r : Int32} (hM : CI l y (wy y bytes maxL ret) rm Γ σ (.ref b :: As) σ' r) (cw : CallW R s args own y.cls index y bytes maxL ret (wy y bytes maxL ret) rm 0 0 n) (hrc : ∃ cell : Cell, H[b]? = some cell ∧ cell.vm.isStatics = false ∧ s.vm.findClass y.cls = some cell.cls) (hn : As.length = n) (hst : st0 = As.reverse ++ .ref b :: rest) (hW : (rest.map fun v => v.category).sum ≤ 8) (hdg : decode cc pc = .ok (.invokevirtual index, 3)) (hf : cells ≤ R.cells ∧ slots ≤ R.slots)
    (kk : ∀ H1 locs1, HW A Γ σ' H0 H1 locs1 → W p l e R s m args below meth c H1 locs1 cells slots Q (F0 m (pc + 3) ls (.int r :: rest))) : W p l e R s m args below meth c H locs cells slots Q (F0 m pc ls st0) :=
  va_calli (va_runV (As := As) (rest := rest) (fix_of X) hM cw ⟨cp_blind, hrc, cp_pre X hH⟩ rfl hn hl.1 hst (lv_room hW) hdg hf) hH.2 (fun q _ h => ia_in X q h) (ia_in X) (fun r' u t H1 locs1 ht _ hw hB _ _ hS => by
    subst hw
    exact kk H1 locs1 ⟨by rw [← ht]; exact hB.1, hS⟩)
theorem r_callVL (X : MX A Γ p s m args c cc nL own) (hl : lv_has ls nL lv) (hH : HW A Γ σ H0 H locs) {b : Nat} {r : Int64} (hM : CL l y (wy y bytes maxL ret) rm Γ σ (.ref b :: As) σ' r) (cw : CallW R s args own y.cls index y bytes maxL ret (wy y bytes maxL ret) rm 0 0 n) (hrc : ∃ cell : Cell, H[b]? = some cell ∧ cell.vm.isStatics = false ∧ s.vm.findClass y.cls = some cell.cls) (hn : As.length = n) (hst : st0 = As.reverse ++ .ref b :: rest) (hW : (rest.map fun v => v.category).sum ≤ 8) (hdg : decode cc pc = .ok (.invokevirtual index, 3)) (hf : cells ≤ R.cells ∧ slots ≤ R.slots)
    (kk : ∀ H1 locs1, HW A Γ σ' H0 H1 locs1 → W p l e R s m args below meth c H1 locs1 cells slots Q (F0 m (pc + 3) ls (.long r :: rest))) : W p l e R s m args below meth c H locs cells slots Q (F0 m pc ls st0) :=
  va_calll (va_runV (As := As) (rest := rest) (fix_of X) hM cw ⟨cp_blind, hrc, cp_pre X hH⟩ rfl hn hl.1 hst (lv_room hW) hdg hf) hH.2 (fun q _ h => ia_in X q h) (ia_in X) (fun r' u t H1 locs1 ht _ hw hB _ _ hS => by
    subst hw
    exact kk H1 locs1 ⟨by rw [← ht]; exact hB.1, hS⟩)
theorem r_callVV (X : MX A Γ p s m args c cc nL own) (hl : lv_has ls nL lv) (hH : HW A Γ σ H0 H locs) {b : Nat} {r : Unit} (hM : CV l y (wy y bytes maxL ret) rm Γ σ (.ref b :: As) σ' r) (cw : CallW R s args own y.cls index y bytes maxL ret (wy y bytes maxL ret) rm 0 0 n) (hrc : ∃ cell : Cell, H[b]? = some cell ∧ cell.vm.isStatics = false ∧ s.vm.findClass y.cls = some cell.cls) (hn : As.length = n) (hst : st0 = As.reverse ++ .ref b :: rest) (hW : (rest.map fun v => v.category).sum ≤ 8) (hdg : decode cc pc = .ok (.invokevirtual index, 3)) (hf : cells ≤ R.cells ∧ slots ≤ R.slots)
    (kk : ∀ H1 locs1, HW A Γ σ' H0 H1 locs1 → W p l e R s m args below meth c H1 locs1 cells slots Q (F0 m (pc + 3) ls rest)) : W p l e R s m args below meth c H locs cells slots Q (F0 m pc ls st0) :=
  va_callv (va_runV (As := As) (rest := rest) (fix_of X) hM cw ⟨cp_blind, hrc, cp_pre X hH⟩ rfl hn hl.1 hst (lv_room hW) hdg hf) hH.2 (fun q _ h => ia_in X q h) (ia_in X) (fun u t H1 locs1 ht _ hw hB _ _ hS => kk H1 locs1 ⟨by rw [← ht]; exact hB.1, hS⟩)
theorem r_callVR (X : MX A Γ p s m args c cc nL own) (hl : lv_has ls nL lv) (hH : HW A Γ σ H0 H locs) {b r : Nat} (hM : CR l y (wy y bytes maxL ret) rm Γ σ (.ref b :: As) σ' r) (cw : CallW R s args own y.cls index y bytes maxL ret (wy y bytes maxL ret) rm 0 0 n) (hrc : ∃ cell : Cell, H[b]? = some cell ∧ cell.vm.isStatics = false ∧ s.vm.findClass y.cls = some cell.cls) (hn : As.length = n) (hst : st0 = As.reverse ++ .ref b :: rest) (hW : (rest.map fun v => v.category).sum ≤ 8) (hdg : decode cc pc = .ok (.invokevirtual index, 3)) (hf : cells ≤ R.cells ∧ slots ≤ R.slots)
    (kk : ∀ H1 locs1, HW A Γ σ' H0 H1 locs1 → W p l e R s m args below meth c H1 locs1 cells slots Q (F0 m (pc + 3) ls (.ref (adr Γ (kR r)) :: rest))) : W p l e R s m args below meth c H locs cells slots Q (F0 m pc ls st0) :=
  va_callr (va_runV (As := As) (rest := rest) (fix_of X) hM cw ⟨cp_blind, hrc, cp_pre X hH⟩ rfl hn hl.1 hst (lv_room hW) hdg hf) hH.2 (fun q _ h => ia_in X q h) (ia_in X) (fun u ra t H1 locs1 ht _ hw hB _ _ hS => by
    rw [hB.1]
    exact kk H1 locs1 ⟨by rw [← ht]; exact hB.2.1, hS⟩)
theorem r_callSI (X : MX A Γ p s m args c cc nL own) (hl : lv_has ls nL lv) (hH : HW A Γ σ H0 H locs) {r : Int32} (hM : CI l y (wy y bytes maxL ret) rm Γ σ As σ' r) (cw : CallB R s args own index y bytes maxL ret (wy y bytes maxL ret) rm 0 0 n ∧ (Cond.static y).before args s = true) (hn : As.length = n) (hst : st0 = As.reverse ++ rest) (hW : (rest.map fun v => v.category).sum ≤ 8) (hdg : decode cc pc = .ok (.invokestatic index, 3)) (hf : cells ≤ R.cells ∧ slots ≤ R.slots)
    (kk : ∀ H1 locs1, HW A Γ σ' H0 H1 locs1 → W p l e R s m args below meth c H1 locs1 cells slots Q (F0 m (pc + 3) ls (.int r :: rest))) : W p l e R s m args below meth c H locs cells slots Q (F0 m pc ls st0) :=
  va_calli (va_runS (As := As) (rest := rest) (fix_of X) hM cw ⟨cp_blind, cp_pre X hH⟩ rfl hn hl.1 hst (lv_room hW) hdg hf) hH.2 (fun q _ h => ia_in X q h) (ia_in X) (fun r' u t H1 locs1 ht _ hw hB _ _ hS => by
    subst hw
    exact kk H1 locs1 ⟨by rw [← ht]; exact hB.1, hS⟩)
theorem r_callSL (X : MX A Γ p s m args c cc nL own) (hl : lv_has ls nL lv) (hH : HW A Γ σ H0 H locs) {r : Int64} (hM : CL l y (wy y bytes maxL ret) rm Γ σ As σ' r) (cw : CallB R s args own index y bytes maxL ret (wy y bytes maxL ret) rm 0 0 n ∧ (Cond.static y).before args s = true) (hn : As.length = n) (hst : st0 = As.reverse ++ rest) (hW : (rest.map fun v => v.category).sum ≤ 8) (hdg : decode cc pc = .ok (.invokestatic index, 3)) (hf : cells ≤ R.cells ∧ slots ≤ R.slots)
    (kk : ∀ H1 locs1, HW A Γ σ' H0 H1 locs1 → W p l e R s m args below meth c H1 locs1 cells slots Q (F0 m (pc + 3) ls (.long r :: rest))) : W p l e R s m args below meth c H locs cells slots Q (F0 m pc ls st0) :=
  va_calll (va_runS (As := As) (rest := rest) (fix_of X) hM cw ⟨cp_blind, cp_pre X hH⟩ rfl hn hl.1 hst (lv_room hW) hdg hf) hH.2 (fun q _ h => ia_in X q h) (ia_in X) (fun r' u t H1 locs1 ht _ hw hB _ _ hS => by
    subst hw
    exact kk H1 locs1 ⟨by rw [← ht]; exact hB.1, hS⟩)
theorem r_callSV (X : MX A Γ p s m args c cc nL own) (hl : lv_has ls nL lv) (hH : HW A Γ σ H0 H locs) {r : Unit} (hM : CV l y (wy y bytes maxL ret) rm Γ σ As σ' r) (cw : CallB R s args own index y bytes maxL ret (wy y bytes maxL ret) rm 0 0 n ∧ (Cond.static y).before args s = true) (hn : As.length = n) (hst : st0 = As.reverse ++ rest) (hW : (rest.map fun v => v.category).sum ≤ 8) (hdg : decode cc pc = .ok (.invokestatic index, 3)) (hf : cells ≤ R.cells ∧ slots ≤ R.slots)
    (kk : ∀ H1 locs1, HW A Γ σ' H0 H1 locs1 → W p l e R s m args below meth c H1 locs1 cells slots Q (F0 m (pc + 3) ls rest)) : W p l e R s m args below meth c H locs cells slots Q (F0 m pc ls st0) :=
  va_callv (va_runS (As := As) (rest := rest) (fix_of X) hM cw ⟨cp_blind, cp_pre X hH⟩ rfl hn hl.1 hst (lv_room hW) hdg hf) hH.2 (fun q _ h => ia_in X q h) (ia_in X) (fun u t H1 locs1 ht _ hw hB _ _ hS => kk H1 locs1 ⟨by rw [← ht]; exact hB.1, hS⟩)
theorem r_callSVN (X : MX A Γ p s m args c cc nL own) (hl : lv_has ls nL lv) (hH : HW A Γ σ H0 H locs) {host : String} {r : Unit} (hM : CV l y (wy y bytes maxL ret) rm Γ σ As σ' r) (hc : Cond.code y bytes maxL ret ∈ wL) (h1 : va_Nw (.methodLinkNest own index y host) s) (h2 : Cond.static y ∈ wL) (h4 : Cond.initialized y.cls ∈ wL) (hrc : rm.cells = 0) (hrs : rm.slots = 0)
    (hd : y.cls ≠ "java/lang/invoke/MethodHandle" ∧ y.cls ≠ "java/lang/invoke/VarHandle" ∧ (parseMethodDescriptor y.desc).map (fun d => d.parameters.length) = some n) (hR : rm.frames + 1 ≤ R.frames ∧ 8 + (maxL + 11) + rm.locals ≤ R.locals) (hn : As.length = n) (hst : st0 = As.reverse ++ rest) (hW : (rest.map fun v => v.category).sum ≤ 8) (hdg : decode cc pc = .ok (.invokestatic index, 3)) (hf : cells ≤ R.cells ∧ slots ≤ R.slots)
    (kk : ∀ H1 locs1, HW A Γ σ' H0 H1 locs1 → W p l e R s m args below meth c H1 locs1 cells slots Q (F0 m (pc + 3) ls rest)) : W p l e R s m args below meth c H locs cells slots Q (F0 m pc ls st0) :=
  va_callv (va_runSN (As := As) (rest := rest) (fix_of X) hM ⟨va_cnB n X.hts (wy_good hc) rfl hrc hrs h1 (X.hts _ h4) hd hR, X.hts _ h2, trivial⟩ ⟨cp_blind, cp_pre X hH⟩ rfl hn hl.1 hst (lv_room hW) hdg hf) hH.2 (fun q _ h => ia_in X q h) (ia_in X) (fun u t H1 locs1 ht _ hw hB _ _ hS => kk H1 locs1 ⟨by rw [← ht]; exact hB.1, hS⟩)
end ROWS
/-- a contract out of the walk of its body -/
theorem met_of {l : Launch} {y : MethodName} {cc : ByteArray} {maxL : Nat} {ret : Option FieldType} {rm : Room} {Γ : GG} {σ : Sg} {as : List Value} {Qc : Array Value → State → Outcome → State → Prop} (hy : plainName y.cls = true) (hJ : IJ Γ) (hlen : (lg_sl as).length ≤ maxL)
    (body : ∀ (p : Program) (e : Env) (s : State) (m : MethodId) (below : List Frame) (meth : Method) (c : Code) (ls : Array Slot), MB Γ p s m as.toArray meth c cc maxL y.cls ret → HW (IA Γ) Γ σ s.heap s.heap [] → lv_has ls maxL (lv_args 0 as) → W p l e rm s m as.toArray below meth c s.heap [] 0 0 (MQ below Qc as.toArray s 0 0 (IA Γ)) (F0 m 0 ls [])) :
    Met l y (wy y cc maxL ret) rm (va_Pc as (CP Γ σ)) Qc 0 0 (IA Γ) := by
  refine Met.ofW (cc := cc) (maxL := maxL) (ret := ret) hy rfl ?_
  intro p e s m args below meth c s₁ B hml hv
  obtain ⟨rfl, hP, hK, hN⟩ := hv
  have hts := atoms_spec (ws := wy y cc maxL ret) B.pre
  have hl := lv_entry as hlen
  rw [lg_entry_eq]
  exact body p e s m below meth c _ ⟨⟨B.exec, B.bytes, hml, findClass_of_methodNamed B.named, fun w hw => hts w (List.mem_cons_of_mem _ hw), hK, hJ, fun k hk => ⟨k, hk, rfl⟩, hN⟩, B.returns, B.notSynchronized⟩ ⟨hP, va_S.rf⟩ hl
end
