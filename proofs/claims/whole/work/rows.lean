section
-- ===== PART A: goes FIRST, ahead of the names: the tables' words, and 'selects' of the private methods out of them =====
/-- a private method of a class that the tables say can be made, by its rows of tables_1 -/
def lw_okq (q : MethodName × Nat) : Prop := (q.1.cls ≠ "java/lang/invoke/MethodHandle" ∧ q.1.cls ≠ "java/lang/invoke/VarHandle") ∧ Cond.instantiable q.1.cls q.2 ∈ tables_1 ∧ Cond.privateMethod q.1 ∈ tables_1 ∧ Cond.instanceMethod q.1 ∈ tables_1
theorem lw_p0 : lw_okq (⟨"FoldedRealm$Tokens", "isLetter", "(I)Z"⟩, 8) := ⟨⟨by decide +kernel, by decide +kernel⟩, List.mem_of_getElem? (i := 36) (by decide +kernel), List.mem_of_getElem? (i := 424) (by decide +kernel), List.mem_of_getElem? (i := 425) (by decide +kernel)⟩
theorem lw_p1 : lw_okq (⟨"FoldedRealm$Tokens", "takeLetters", "()V"⟩, 8) := ⟨⟨by decide +kernel, by decide +kernel⟩, List.mem_of_getElem? (i := 36) (by decide +kernel), List.mem_of_getElem? (i := 428) (by decide +kernel), List.mem_of_getElem? (i := 429) (by decide +kernel)⟩
theorem lw_p2 : lw_okq (⟨"FoldedRealm$Tokens", "isDigit", "(I)Z"⟩, 8) := ⟨⟨by decide +kernel, by decide +kernel⟩, List.mem_of_getElem? (i := 36) (by decide +kernel), List.mem_of_getElem? (i := 433) (by decide +kernel), List.mem_of_getElem? (i := 434) (by decide +kernel)⟩
theorem lw_p3 : lw_okq (⟨"FoldedRealm$Tokens", "takeDigits", "()V"⟩, 8) := ⟨⟨by decide +kernel, by decide +kernel⟩, List.mem_of_getElem? (i := 36) (by decide +kernel), List.mem_of_getElem? (i := 437) (by decide +kernel), List.mem_of_getElem? (i := 438) (by decide +kernel)⟩
theorem lw_p4 : lw_okq (⟨"FoldedRealm$Tokens", "sortTaken", "()LFoldedRealm$Sort;"⟩, 8) := ⟨⟨by decide +kernel, by decide +kernel⟩, List.mem_of_getElem? (i := 36) (by decide +kernel), List.mem_of_getElem? (i := 441) (by decide +kernel), List.mem_of_getElem? (i := 442) (by decide +kernel)⟩
theorem lw_p5 : lw_okq (⟨"FoldedRealm$Reader", "readWriter", "(LFoldedRealm$Realm;)Z"⟩, 4) := ⟨⟨by decide +kernel, by decide +kernel⟩, List.mem_of_getElem? (i := 77) (by decide +kernel), List.mem_of_getElem? (i := 518) (by decide +kernel), List.mem_of_getElem? (i := 519) (by decide +kernel)⟩
theorem lw_p6 : lw_okq (⟨"FoldedRealm$Reader", "isNewName", "(LFoldedRealm$Realm;)Z"⟩, 4) := ⟨⟨by decide +kernel, by decide +kernel⟩, List.mem_of_getElem? (i := 77) (by decide +kernel), List.mem_of_getElem? (i := 527) (by decide +kernel), List.mem_of_getElem? (i := 528) (by decide +kernel)⟩
theorem lw_p7 : lw_okq (⟨"FoldedRealm$Reader", "kindTold", "()I"⟩, 4) := ⟨⟨by decide +kernel, by decide +kernel⟩, List.mem_of_getElem? (i := 77) (by decide +kernel), List.mem_of_getElem? (i := 540) (by decide +kernel), List.mem_of_getElem? (i := 541) (by decide +kernel)⟩
theorem lw_p8 : lw_okq (⟨"FoldedRealm$Reader", "readWord", "(LFoldedRealm$Realm;)Z"⟩, 4) := ⟨⟨by decide +kernel, by decide +kernel⟩, List.mem_of_getElem? (i := 77) (by decide +kernel), List.mem_of_getElem? (i := 544) (by decide +kernel), List.mem_of_getElem? (i := 545) (by decide +kernel)⟩
theorem lw_p9 : lw_okq (⟨"FoldedRealm$Reader", "readEntry", "(LFoldedRealm$Sort;I[II)Z"⟩, 4) := ⟨⟨by decide +kernel, by decide +kernel⟩, List.mem_of_getElem? (i := 77) (by decide +kernel), List.mem_of_getElem? (i := 550) (by decide +kernel), List.mem_of_getElem? (i := 551) (by decide +kernel)⟩
theorem lw_p10 : lw_okq (⟨"FoldedRealm$Reader", "isNumber", "(II)Z"⟩, 4) := ⟨⟨by decide +kernel, by decide +kernel⟩, List.mem_of_getElem? (i := 77) (by decide +kernel), List.mem_of_getElem? (i := 554) (by decide +kernel), List.mem_of_getElem? (i := 555) (by decide +kernel)⟩
theorem lw_p11 : lw_okq (⟨"FoldedRealm$Reader", "readLikes", "(LFoldedRealm$Realm;)Z"⟩, 4) := ⟨⟨by decide +kernel, by decide +kernel⟩, List.mem_of_getElem? (i := 77) (by decide +kernel), List.mem_of_getElem? (i := 565) (by decide +kernel), List.mem_of_getElem? (i := 566) (by decide +kernel)⟩
theorem lw_p12 : lw_okq (⟨"FoldedRealm$Reader", "failAtName", "()Z"⟩, 4) := ⟨⟨by decide +kernel, by decide +kernel⟩, List.mem_of_getElem? (i := 77) (by decide +kernel), List.mem_of_getElem? (i := 569) (by decide +kernel), List.mem_of_getElem? (i := 570) (by decide +kernel)⟩
theorem lw_p13 : lw_okq (⟨"FoldedRealm$Reader", "readClash", "(LFoldedRealm$Realm;)Z"⟩, 4) := ⟨⟨by decide +kernel, by decide +kernel⟩, List.mem_of_getElem? (i := 77) (by decide +kernel), List.mem_of_getElem? (i := 589) (by decide +kernel), List.mem_of_getElem? (i := 590) (by decide +kernel)⟩
theorem lw_p14 : lw_okq (⟨"FoldedRealm$Reader", "readFolds", "(LFoldedRealm$Realm;)Z"⟩, 4) := ⟨⟨by decide +kernel, by decide +kernel⟩, List.mem_of_getElem? (i := 77) (by decide +kernel), List.mem_of_getElem? (i := 601) (by decide +kernel), List.mem_of_getElem? (i := 602) (by decide +kernel)⟩
theorem lw_p15 : lw_okq (⟨"FoldedRealm$Reader", "readFormula", "(LFoldedRealm$Realm;LFoldedRealm$Formula;)Z"⟩, 4) := ⟨⟨by decide +kernel, by decide +kernel⟩, List.mem_of_getElem? (i := 77) (by decide +kernel), List.mem_of_getElem? (i := 605) (by decide +kernel), List.mem_of_getElem? (i := 606) (by decide +kernel)⟩
def lw_privs_1 : List (MethodName × Nat) := [(⟨"FoldedRealm$Tokens", "isLetter", "(I)Z"⟩, 8), (⟨"FoldedRealm$Tokens", "takeLetters", "()V"⟩, 8), (⟨"FoldedRealm$Tokens", "isDigit", "(I)Z"⟩, 8), (⟨"FoldedRealm$Tokens", "takeDigits", "()V"⟩, 8), (⟨"FoldedRealm$Tokens", "sortTaken", "()LFoldedRealm$Sort;"⟩, 8), (⟨"FoldedRealm$Reader", "readWriter", "(LFoldedRealm$Realm;)Z"⟩, 4), (⟨"FoldedRealm$Reader", "isNewName", "(LFoldedRealm$Realm;)Z"⟩, 4), (⟨"FoldedRealm$Reader", "kindTold", "()I"⟩, 4), (⟨"FoldedRealm$Reader", "readWord", "(LFoldedRealm$Realm;)Z"⟩, 4), (⟨"FoldedRealm$Reader", "readEntry", "(LFoldedRealm$Sort;I[II)Z"⟩, 4), (⟨"FoldedRealm$Reader", "isNumber", "(II)Z"⟩, 4), (⟨"FoldedRealm$Reader", "readLikes", "(LFoldedRealm$Realm;)Z"⟩, 4), (⟨"FoldedRealm$Reader", "failAtName", "()Z"⟩, 4), (⟨"FoldedRealm$Reader", "readClash", "(LFoldedRealm$Realm;)Z"⟩, 4), (⟨"FoldedRealm$Reader", "readFolds", "(LFoldedRealm$Realm;)Z"⟩, 4), (⟨"FoldedRealm$Reader", "readFormula", "(LFoldedRealm$Realm;LFoldedRealm$Formula;)Z"⟩, 4)]
theorem lw_r1 : ∀ q ∈ lw_privs_1, lw_okq q := List.forall_mem_cons.mpr ⟨lw_p0, List.forall_mem_cons.mpr ⟨lw_p1, List.forall_mem_cons.mpr ⟨lw_p2, List.forall_mem_cons.mpr ⟨lw_p3, List.forall_mem_cons.mpr ⟨lw_p4, List.forall_mem_cons.mpr ⟨lw_p5, List.forall_mem_cons.mpr ⟨lw_p6, List.forall_mem_cons.mpr ⟨lw_p7, List.forall_mem_cons.mpr ⟨lw_p8, List.forall_mem_cons.mpr ⟨lw_p9, List.forall_mem_cons.mpr ⟨lw_p10, List.forall_mem_cons.mpr ⟨lw_p11, List.forall_mem_cons.mpr ⟨lw_p12, List.forall_mem_cons.mpr ⟨lw_p13, List.forall_mem_cons.mpr ⟨lw_p14, List.forall_mem_cons.mpr ⟨lw_p15, fun _ h => absurd h List.not_mem_nil⟩⟩⟩⟩⟩⟩⟩⟩⟩⟩⟩⟩⟩⟩⟩⟩
theorem lw_p16 : lw_okq (⟨"FoldedRealm$FormulaReader", "readTest", "(LFoldedRealm$Formula;I)Z"⟩, 1) := ⟨⟨by decide +kernel, by decide +kernel⟩, List.mem_of_getElem? (i := 83) (by decide +kernel), List.mem_of_getElem? (i := 624) (by decide +kernel), List.mem_of_getElem? (i := 625) (by decide +kernel)⟩
theorem lw_p17 : lw_okq (⟨"FoldedRealm$FormulaReader", "readSum", "(LFoldedRealm$Formula;I)Z"⟩, 1) := ⟨⟨by decide +kernel, by decide +kernel⟩, List.mem_of_getElem? (i := 83) (by decide +kernel), List.mem_of_getElem? (i := 628) (by decide +kernel), List.mem_of_getElem? (i := 629) (by decide +kernel)⟩
theorem lw_p18 : lw_okq (⟨"FoldedRealm$FormulaReader", "readProduct", "(LFoldedRealm$Formula;I)Z"⟩, 1) := ⟨⟨by decide +kernel, by decide +kernel⟩, List.mem_of_getElem? (i := 83) (by decide +kernel), List.mem_of_getElem? (i := 632) (by decide +kernel), List.mem_of_getElem? (i := 633) (by decide +kernel)⟩
theorem lw_p19 : lw_okq (⟨"FoldedRealm$FormulaReader", "readPart", "(LFoldedRealm$Formula;I)Z"⟩, 1) := ⟨⟨by decide +kernel, by decide +kernel⟩, List.mem_of_getElem? (i := 83) (by decide +kernel), List.mem_of_getElem? (i := 636) (by decide +kernel), List.mem_of_getElem? (i := 637) (by decide +kernel)⟩
theorem lw_p20 : lw_okq (⟨"FoldedRealm$FormulaReader", "factTold", "(Z)I"⟩, 1) := ⟨⟨by decide +kernel, by decide +kernel⟩, List.mem_of_getElem? (i := 83) (by decide +kernel), List.mem_of_getElem? (i := 640) (by decide +kernel), List.mem_of_getElem? (i := 641) (by decide +kernel)⟩
theorem lw_p21 : lw_okq (⟨"FoldedRealm$FormulaReader", "factOfWrites", "()I"⟩, 1) := ⟨⟨by decide +kernel, by decide +kernel⟩, List.mem_of_getElem? (i := 83) (by decide +kernel), List.mem_of_getElem? (i := 646) (by decide +kernel), List.mem_of_getElem? (i := 647) (by decide +kernel)⟩
theorem lw_p22 : lw_okq (⟨"FoldedRealm$FormulaReader", "factOfDoes", "()I"⟩, 1) := ⟨⟨by decide +kernel, by decide +kernel⟩, List.mem_of_getElem? (i := 83) (by decide +kernel), List.mem_of_getElem? (i := 656) (by decide +kernel), List.mem_of_getElem? (i := 657) (by decide +kernel)⟩
theorem lw_p23 : lw_okq (⟨"FoldedRealm$FormulaReader", "readToClose", "(LFoldedRealm$Formula;I)Z"⟩, 1) := ⟨⟨by decide +kernel, by decide +kernel⟩, List.mem_of_getElem? (i := 83) (by decide +kernel), List.mem_of_getElem? (i := 679) (by decide +kernel), List.mem_of_getElem? (i := 680) (by decide +kernel)⟩
theorem lw_p24 : lw_okq (⟨"FoldedRealm$Reader", "readSundayLine", "(LFoldedRealm$Realm;)Z"⟩, 4) := ⟨⟨by decide +kernel, by decide +kernel⟩, List.mem_of_getElem? (i := 77) (by decide +kernel), List.mem_of_getElem? (i := 723) (by decide +kernel), List.mem_of_getElem? (i := 724) (by decide +kernel)⟩
theorem lw_p25 : lw_okq (⟨"FoldedRealm", "likelyNow", "(I)I"⟩, 12) := ⟨⟨by decide +kernel, by decide +kernel⟩, List.mem_of_getElem? (i := 28) (by decide +kernel), List.mem_of_getElem? (i := 757) (by decide +kernel), List.mem_of_getElem? (i := 758) (by decide +kernel)⟩
theorem lw_p26 : lw_okq (⟨"FoldedRealm$Formula", "factAt", "(I)I"⟩, 6) := ⟨⟨by decide +kernel, by decide +kernel⟩, List.mem_of_getElem? (i := 115) (by decide +kernel), List.mem_of_getElem? (i := 805) (by decide +kernel), List.mem_of_getElem? (i := 806) (by decide +kernel)⟩
theorem lw_p27 : lw_okq (⟨"FoldedRealm$Standing", "putOnSpike", "()V"⟩, 7) := ⟨⟨by decide +kernel, by decide +kernel⟩, List.mem_of_getElem? (i := 223) (by decide +kernel), List.mem_of_getElem? (i := 873) (by decide +kernel), List.mem_of_getElem? (i := 874) (by decide +kernel)⟩
theorem lw_p28 : lw_okq (⟨"FoldedRealm$Standing", "closeGap", "(I)V"⟩, 7) := ⟨⟨by decide +kernel, by decide +kernel⟩, List.mem_of_getElem? (i := 223) (by decide +kernel), List.mem_of_getElem? (i := 877) (by decide +kernel), List.mem_of_getElem? (i := 878) (by decide +kernel)⟩
theorem lw_p29 : lw_okq (⟨"FoldedRealm$Standing", "areClashing", "(LFoldedRealm$Realm;II)Z"⟩, 7) := ⟨⟨by decide +kernel, by decide +kernel⟩, List.mem_of_getElem? (i := 223) (by decide +kernel), List.mem_of_getElem? (i := 945) (by decide +kernel), List.mem_of_getElem? (i := 946) (by decide +kernel)⟩
theorem lw_p30 : lw_okq (⟨"FoldedRealm$Odds", "extend", "(LFoldedRealm$Realm;IIJJ)V"⟩, 7) := ⟨⟨by decide +kernel, by decide +kernel⟩, List.mem_of_getElem? (i := 304) (by decide +kernel), List.mem_of_getElem? (i := 994) (by decide +kernel), List.mem_of_getElem? (i := 995) (by decide +kernel)⟩
theorem lw_p31 : lw_okq (⟨"FoldedRealm$Odds", "keepRow", "(JJ)V"⟩, 7) := ⟨⟨by decide +kernel, by decide +kernel⟩, List.mem_of_getElem? (i := 304) (by decide +kernel), List.mem_of_getElem? (i := 998) (by decide +kernel), List.mem_of_getElem? (i := 999) (by decide +kernel)⟩
def lw_privs_2 : List (MethodName × Nat) := [(⟨"FoldedRealm$FormulaReader", "readTest", "(LFoldedRealm$Formula;I)Z"⟩, 1), (⟨"FoldedRealm$FormulaReader", "readSum", "(LFoldedRealm$Formula;I)Z"⟩, 1), (⟨"FoldedRealm$FormulaReader", "readProduct", "(LFoldedRealm$Formula;I)Z"⟩, 1), (⟨"FoldedRealm$FormulaReader", "readPart", "(LFoldedRealm$Formula;I)Z"⟩, 1), (⟨"FoldedRealm$FormulaReader", "factTold", "(Z)I"⟩, 1), (⟨"FoldedRealm$FormulaReader", "factOfWrites", "()I"⟩, 1), (⟨"FoldedRealm$FormulaReader", "factOfDoes", "()I"⟩, 1), (⟨"FoldedRealm$FormulaReader", "readToClose", "(LFoldedRealm$Formula;I)Z"⟩, 1), (⟨"FoldedRealm$Reader", "readSundayLine", "(LFoldedRealm$Realm;)Z"⟩, 4), (⟨"FoldedRealm", "likelyNow", "(I)I"⟩, 12), (⟨"FoldedRealm$Formula", "factAt", "(I)I"⟩, 6), (⟨"FoldedRealm$Standing", "putOnSpike", "()V"⟩, 7), (⟨"FoldedRealm$Standing", "closeGap", "(I)V"⟩, 7), (⟨"FoldedRealm$Standing", "areClashing", "(LFoldedRealm$Realm;II)Z"⟩, 7), (⟨"FoldedRealm$Odds", "extend", "(LFoldedRealm$Realm;IIJJ)V"⟩, 7), (⟨"FoldedRealm$Odds", "keepRow", "(JJ)V"⟩, 7)]
theorem lw_r2 : ∀ q ∈ lw_privs_2, lw_okq q := List.forall_mem_cons.mpr ⟨lw_p16, List.forall_mem_cons.mpr ⟨lw_p17, List.forall_mem_cons.mpr ⟨lw_p18, List.forall_mem_cons.mpr ⟨lw_p19, List.forall_mem_cons.mpr ⟨lw_p20, List.forall_mem_cons.mpr ⟨lw_p21, List.forall_mem_cons.mpr ⟨lw_p22, List.forall_mem_cons.mpr ⟨lw_p23, List.forall_mem_cons.mpr ⟨lw_p24, List.forall_mem_cons.mpr ⟨lw_p25, List.forall_mem_cons.mpr ⟨lw_p26, List.forall_mem_cons.mpr ⟨lw_p27, List.forall_mem_cons.mpr ⟨lw_p28, List.forall_mem_cons.mpr ⟨lw_p29, List.forall_mem_cons.mpr ⟨lw_p30, List.forall_mem_cons.mpr ⟨lw_p31, fun _ h => absurd h List.not_mem_nil⟩⟩⟩⟩⟩⟩⟩⟩⟩⟩⟩⟩⟩⟩⟩⟩
theorem lw_p32 : lw_okq (⟨"FoldedRealm$Odds", "hasRow", "(I)Z"⟩, 7) := ⟨⟨by decide +kernel, by decide +kernel⟩, List.mem_of_getElem? (i := 304) (by decide +kernel), List.mem_of_getElem? (i := 1011) (by decide +kernel), List.mem_of_getElem? (i := 1012) (by decide +kernel)⟩
theorem lw_p33 : lw_okq (⟨"FoldedRealm$Shares", "empty", "()V"⟩, 1) := ⟨⟨by decide +kernel, by decide +kernel⟩, List.mem_of_getElem? (i := 334) (by decide +kernel), List.mem_of_getElem? (i := 1037) (by decide +kernel), List.mem_of_getElem? (i := 1038) (by decide +kernel)⟩
theorem lw_p34 : lw_okq (⟨"FoldedRealm$Shares", "flow", "(LFoldedRealm$Realm;LFoldedRealm$Odds;I)V"⟩, 1) := ⟨⟨by decide +kernel, by decide +kernel⟩, List.mem_of_getElem? (i := 334) (by decide +kernel), List.mem_of_getElem? (i := 1043) (by decide +kernel), List.mem_of_getElem? (i := 1044) (by decide +kernel)⟩
theorem lw_p35 : lw_okq (⟨"FoldedRealm$Shares", "share", "(LFoldedRealm$Realm;LFoldedRealm$Odds;III)V"⟩, 1) := ⟨⟨by decide +kernel, by decide +kernel⟩, List.mem_of_getElem? (i := 334) (by decide +kernel), List.mem_of_getElem? (i := 1051) (by decide +kernel), List.mem_of_getElem? (i := 1052) (by decide +kernel)⟩
theorem lw_p36 : lw_okq (⟨"FoldedRealm", "sharedBy", "(II)I"⟩, 12) := ⟨⟨by decide +kernel, by decide +kernel⟩, List.mem_of_getElem? (i := 28) (by decide +kernel), List.mem_of_getElem? (i := 1067) (by decide +kernel), List.mem_of_getElem? (i := 1068) (by decide +kernel)⟩
theorem lw_p37 : lw_okq (⟨"FoldedRealm$Shares", "keepAlone", "(LFoldedRealm$Realm;II)V"⟩, 1) := ⟨⟨by decide +kernel, by decide +kernel⟩, List.mem_of_getElem? (i := 334) (by decide +kernel), List.mem_of_getElem? (i := 1075) (by decide +kernel), List.mem_of_getElem? (i := 1076) (by decide +kernel)⟩
theorem lw_p38 : lw_okq (⟨"FoldedRealm", "isPeaceWithout", "(I)Z"⟩, 12) := ⟨⟨by decide +kernel, by decide +kernel⟩, List.mem_of_getElem? (i := 28) (by decide +kernel), List.mem_of_getElem? (i := 1100) (by decide +kernel), List.mem_of_getElem? (i := 1101) (by decide +kernel)⟩
theorem lw_p39 : lw_okq (⟨"FoldedRealm", "likeliestBy", "(II)I"⟩, 12) := ⟨⟨by decide +kernel, by decide +kernel⟩, List.mem_of_getElem? (i := 28) (by decide +kernel), List.mem_of_getElem? (i := 1122) (by decide +kernel), List.mem_of_getElem? (i := 1123) (by decide +kernel)⟩
theorem lw_p40 : lw_okq (⟨"java/lang/Throwable", "fillInStackTrace", "(I)Ljava/lang/Throwable;"⟩, 6) := ⟨⟨by decide +kernel, by decide +kernel⟩, List.mem_of_getElem? (i := 1214) (by decide +kernel), List.mem_of_getElem? (i := 1212) (by decide +kernel), List.mem_of_getElem? (i := 1213) (by decide +kernel)⟩
theorem lw_p41 : lw_okq (⟨"FoldedRealmModel", "fresh", "()V"⟩, 63) := ⟨⟨by decide +kernel, by decide +kernel⟩, List.mem_of_getElem? (i := 1247) (by decide +kernel), List.mem_of_getElem? (i := 1253) (by decide +kernel), List.mem_of_getElem? (i := 1254) (by decide +kernel)⟩
theorem lw_p42 : lw_okq (⟨"FoldedRealmModel", "readsAll", "()Z"⟩, 63) := ⟨⟨by decide +kernel, by decide +kernel⟩, List.mem_of_getElem? (i := 1247) (by decide +kernel), List.mem_of_getElem? (i := 1461) (by decide +kernel), List.mem_of_getElem? (i := 1462) (by decide +kernel)⟩
theorem lw_p43 : lw_okq (⟨"FoldedRealmModel", "begins", "()V"⟩, 63) := ⟨⟨by decide +kernel, by decide +kernel⟩, List.mem_of_getElem? (i := 1247) (by decide +kernel), List.mem_of_getElem? (i := 1465) (by decide +kernel), List.mem_of_getElem? (i := 1466) (by decide +kernel)⟩
theorem lw_p44 : lw_okq (⟨"FoldedRealmModel", "nextToken", "()V"⟩, 63) := ⟨⟨by decide +kernel, by decide +kernel⟩, List.mem_of_getElem? (i := 1247) (by decide +kernel), List.mem_of_getElem? (i := 1469) (by decide +kernel), List.mem_of_getElem? (i := 1470) (by decide +kernel)⟩
theorem lw_p45 : lw_okq (⟨"FoldedRealmModel", "signAt", "(I)I"⟩, 63) := ⟨⟨by decide +kernel, by decide +kernel⟩, List.mem_of_getElem? (i := 1247) (by decide +kernel), List.mem_of_getElem? (i := 1473) (by decide +kernel), List.mem_of_getElem? (i := 1474) (by decide +kernel)⟩
theorem lw_p46 : lw_okq (⟨"FoldedRealmModel", "isWord", "(J)Z"⟩, 63) := ⟨⟨by decide +kernel, by decide +kernel⟩, List.mem_of_getElem? (i := 1247) (by decide +kernel), List.mem_of_getElem? (i := 1480) (by decide +kernel), List.mem_of_getElem? (i := 1481) (by decide +kernel)⟩
theorem lw_p47 : lw_okq (⟨"FoldedRealmModel", "readsWriter", "()Z"⟩, 63) := ⟨⟨by decide +kernel, by decide +kernel⟩, List.mem_of_getElem? (i := 1247) (by decide +kernel), List.mem_of_getElem? (i := 1484) (by decide +kernel), List.mem_of_getElem? (i := 1485) (by decide +kernel)⟩
def lw_privs_3 : List (MethodName × Nat) := [(⟨"FoldedRealm$Odds", "hasRow", "(I)Z"⟩, 7), (⟨"FoldedRealm$Shares", "empty", "()V"⟩, 1), (⟨"FoldedRealm$Shares", "flow", "(LFoldedRealm$Realm;LFoldedRealm$Odds;I)V"⟩, 1), (⟨"FoldedRealm$Shares", "share", "(LFoldedRealm$Realm;LFoldedRealm$Odds;III)V"⟩, 1), (⟨"FoldedRealm", "sharedBy", "(II)I"⟩, 12), (⟨"FoldedRealm$Shares", "keepAlone", "(LFoldedRealm$Realm;II)V"⟩, 1), (⟨"FoldedRealm", "isPeaceWithout", "(I)Z"⟩, 12), (⟨"FoldedRealm", "likeliestBy", "(II)I"⟩, 12), (⟨"java/lang/Throwable", "fillInStackTrace", "(I)Ljava/lang/Throwable;"⟩, 6), (⟨"FoldedRealmModel", "fresh", "()V"⟩, 63), (⟨"FoldedRealmModel", "readsAll", "()Z"⟩, 63), (⟨"FoldedRealmModel", "begins", "()V"⟩, 63), (⟨"FoldedRealmModel", "nextToken", "()V"⟩, 63), (⟨"FoldedRealmModel", "signAt", "(I)I"⟩, 63), (⟨"FoldedRealmModel", "isWord", "(J)Z"⟩, 63), (⟨"FoldedRealmModel", "readsWriter", "()Z"⟩, 63)]
theorem lw_r3 : ∀ q ∈ lw_privs_3, lw_okq q := List.forall_mem_cons.mpr ⟨lw_p32, List.forall_mem_cons.mpr ⟨lw_p33, List.forall_mem_cons.mpr ⟨lw_p34, List.forall_mem_cons.mpr ⟨lw_p35, List.forall_mem_cons.mpr ⟨lw_p36, List.forall_mem_cons.mpr ⟨lw_p37, List.forall_mem_cons.mpr ⟨lw_p38, List.forall_mem_cons.mpr ⟨lw_p39, List.forall_mem_cons.mpr ⟨lw_p40, List.forall_mem_cons.mpr ⟨lw_p41, List.forall_mem_cons.mpr ⟨lw_p42, List.forall_mem_cons.mpr ⟨lw_p43, List.forall_mem_cons.mpr ⟨lw_p44, List.forall_mem_cons.mpr ⟨lw_p45, List.forall_mem_cons.mpr ⟨lw_p46, List.forall_mem_cons.mpr ⟨lw_p47, fun _ h => absurd h List.not_mem_nil⟩⟩⟩⟩⟩⟩⟩⟩⟩⟩⟩⟩⟩⟩⟩⟩
theorem lw_p48 : lw_okq (⟨"FoldedRealmModel", "fails", "(I)Z"⟩, 63) := ⟨⟨by decide +kernel, by decide +kernel⟩, List.mem_of_getElem? (i := 1247) (by decide +kernel), List.mem_of_getElem? (i := 1488) (by decide +kernel), List.mem_of_getElem? (i := 1489) (by decide +kernel)⟩
theorem lw_p49 : lw_okq (⟨"FoldedRealmModel", "needsNew", "()Z"⟩, 63) := ⟨⟨by decide +kernel, by decide +kernel⟩, List.mem_of_getElem? (i := 1247) (by decide +kernel), List.mem_of_getElem? (i := 1492) (by decide +kernel), List.mem_of_getElem? (i := 1493) (by decide +kernel)⟩
theorem lw_p50 : lw_okq (⟨"FoldedRealmModel", "isKept", "()Z"⟩, 63) := ⟨⟨by decide +kernel, by decide +kernel⟩, List.mem_of_getElem? (i := 1247) (by decide +kernel), List.mem_of_getElem? (i := 1496) (by decide +kernel), List.mem_of_getElem? (i := 1497) (by decide +kernel)⟩
theorem lw_p51 : lw_okq (⟨"FoldedRealmModel", "writerNamed", "()I"⟩, 63) := ⟨⟨by decide +kernel, by decide +kernel⟩, List.mem_of_getElem? (i := 1247) (by decide +kernel), List.mem_of_getElem? (i := 1520) (by decide +kernel), List.mem_of_getElem? (i := 1521) (by decide +kernel)⟩
theorem lw_p52 : lw_okq (⟨"FoldedRealmModel", "wordNamed", "(I)I"⟩, 63) := ⟨⟨by decide +kernel, by decide +kernel⟩, List.mem_of_getElem? (i := 1247) (by decide +kernel), List.mem_of_getElem? (i := 1524) (by decide +kernel), List.mem_of_getElem? (i := 1525) (by decide +kernel)⟩
theorem lw_p53 : lw_okq (⟨"FoldedRealmModel", "closes", "()Z"⟩, 63) := ⟨⟨by decide +kernel, by decide +kernel⟩, List.mem_of_getElem? (i := 1247) (by decide +kernel), List.mem_of_getElem? (i := 1528) (by decide +kernel), List.mem_of_getElem? (i := 1529) (by decide +kernel)⟩
theorem lw_p54 : lw_okq (⟨"FoldedRealmModel", "isSign", "(I)Z"⟩, 63) := ⟨⟨by decide +kernel, by decide +kernel⟩, List.mem_of_getElem? (i := 1247) (by decide +kernel), List.mem_of_getElem? (i := 1532) (by decide +kernel), List.mem_of_getElem? (i := 1533) (by decide +kernel)⟩
theorem lw_p55 : lw_okq (⟨"FoldedRealmModel", "readsWord", "()Z"⟩, 63) := ⟨⟨by decide +kernel, by decide +kernel⟩, List.mem_of_getElem? (i := 1247) (by decide +kernel), List.mem_of_getElem? (i := 1536) (by decide +kernel), List.mem_of_getElem? (i := 1537) (by decide +kernel)⟩
theorem lw_p56 : lw_okq (⟨"FoldedRealmModel", "needsBoth", "(JII)Z"⟩, 63) := ⟨⟨by decide +kernel, by decide +kernel⟩, List.mem_of_getElem? (i := 1247) (by decide +kernel), List.mem_of_getElem? (i := 1540) (by decide +kernel), List.mem_of_getElem? (i := 1541) (by decide +kernel)⟩
theorem lw_p57 : lw_okq (⟨"FoldedRealmModel", "needsNumber", "(II)Z"⟩, 63) := ⟨⟨by decide +kernel, by decide +kernel⟩, List.mem_of_getElem? (i := 1247) (by decide +kernel), List.mem_of_getElem? (i := 1544) (by decide +kernel), List.mem_of_getElem? (i := 1545) (by decide +kernel)⟩
theorem lw_p58 : lw_okq (⟨"FoldedRealmModel", "readsLikes", "()Z"⟩, 63) := ⟨⟨by decide +kernel, by decide +kernel⟩, List.mem_of_getElem? (i := 1247) (by decide +kernel), List.mem_of_getElem? (i := 1551) (by decide +kernel), List.mem_of_getElem? (i := 1552) (by decide +kernel)⟩
theorem lw_p59 : lw_okq (⟨"FoldedRealmModel", "needsToldWord", "(I)Z"⟩, 63) := ⟨⟨by decide +kernel, by decide +kernel⟩, List.mem_of_getElem? (i := 1247) (by decide +kernel), List.mem_of_getElem? (i := 1555) (by decide +kernel), List.mem_of_getElem? (i := 1556) (by decide +kernel)⟩
theorem lw_p60 : lw_okq (⟨"FoldedRealmModel", "readsClash", "()Z"⟩, 63) := ⟨⟨by decide +kernel, by decide +kernel⟩, List.mem_of_getElem? (i := 1247) (by decide +kernel), List.mem_of_getElem? (i := 1559) (by decide +kernel), List.mem_of_getElem? (i := 1560) (by decide +kernel)⟩
theorem lw_p61 : lw_okq (⟨"FoldedRealmModel", "readsFolds", "()Z"⟩, 63) := ⟨⟨by decide +kernel, by decide +kernel⟩, List.mem_of_getElem? (i := 1247) (by decide +kernel), List.mem_of_getElem? (i := 1563) (by decide +kernel), List.mem_of_getElem? (i := 1564) (by decide +kernel)⟩
theorem lw_p62 : lw_okq (⟨"FoldedRealmModel", "readsLaw", "(I)Z"⟩, 63) := ⟨⟨by decide +kernel, by decide +kernel⟩, List.mem_of_getElem? (i := 1247) (by decide +kernel), List.mem_of_getElem? (i := 1567) (by decide +kernel), List.mem_of_getElem? (i := 1568) (by decide +kernel)⟩
theorem lw_p63 : lw_okq (⟨"FoldedRealmModel", "reads", "()Z"⟩, 63) := ⟨⟨by decide +kernel, by decide +kernel⟩, List.mem_of_getElem? (i := 1247) (by decide +kernel), List.mem_of_getElem? (i := 1571) (by decide +kernel), List.mem_of_getElem? (i := 1572) (by decide +kernel)⟩
def lw_privs_4 : List (MethodName × Nat) := [(⟨"FoldedRealmModel", "fails", "(I)Z"⟩, 63), (⟨"FoldedRealmModel", "needsNew", "()Z"⟩, 63), (⟨"FoldedRealmModel", "isKept", "()Z"⟩, 63), (⟨"FoldedRealmModel", "writerNamed", "()I"⟩, 63), (⟨"FoldedRealmModel", "wordNamed", "(I)I"⟩, 63), (⟨"FoldedRealmModel", "closes", "()Z"⟩, 63), (⟨"FoldedRealmModel", "isSign", "(I)Z"⟩, 63), (⟨"FoldedRealmModel", "readsWord", "()Z"⟩, 63), (⟨"FoldedRealmModel", "needsBoth", "(JII)Z"⟩, 63), (⟨"FoldedRealmModel", "needsNumber", "(II)Z"⟩, 63), (⟨"FoldedRealmModel", "readsLikes", "()Z"⟩, 63), (⟨"FoldedRealmModel", "needsToldWord", "(I)Z"⟩, 63), (⟨"FoldedRealmModel", "readsClash", "()Z"⟩, 63), (⟨"FoldedRealmModel", "readsFolds", "()Z"⟩, 63), (⟨"FoldedRealmModel", "readsLaw", "(I)Z"⟩, 63), (⟨"FoldedRealmModel", "reads", "()Z"⟩, 63)]
theorem lw_r4 : ∀ q ∈ lw_privs_4, lw_okq q := List.forall_mem_cons.mpr ⟨lw_p48, List.forall_mem_cons.mpr ⟨lw_p49, List.forall_mem_cons.mpr ⟨lw_p50, List.forall_mem_cons.mpr ⟨lw_p51, List.forall_mem_cons.mpr ⟨lw_p52, List.forall_mem_cons.mpr ⟨lw_p53, List.forall_mem_cons.mpr ⟨lw_p54, List.forall_mem_cons.mpr ⟨lw_p55, List.forall_mem_cons.mpr ⟨lw_p56, List.forall_mem_cons.mpr ⟨lw_p57, List.forall_mem_cons.mpr ⟨lw_p58, List.forall_mem_cons.mpr ⟨lw_p59, List.forall_mem_cons.mpr ⟨lw_p60, List.forall_mem_cons.mpr ⟨lw_p61, List.forall_mem_cons.mpr ⟨lw_p62, List.forall_mem_cons.mpr ⟨lw_p63, fun _ h => absurd h List.not_mem_nil⟩⟩⟩⟩⟩⟩⟩⟩⟩⟩⟩⟩⟩⟩⟩⟩
theorem lw_p64 : lw_okq (⟨"FoldedRealmModel", "fact", "()I"⟩, 63) := ⟨⟨by decide +kernel, by decide +kernel⟩, List.mem_of_getElem? (i := 1247) (by decide +kernel), List.mem_of_getElem? (i := 1575) (by decide +kernel), List.mem_of_getElem? (i := 1576) (by decide +kernel)⟩
theorem lw_p65 : lw_okq (⟨"FoldedRealmModel", "puts", "(I)V"⟩, 63) := ⟨⟨by decide +kernel, by decide +kernel⟩, List.mem_of_getElem? (i := 1247) (by decide +kernel), List.mem_of_getElem? (i := 1587) (by decide +kernel), List.mem_of_getElem? (i := 1588) (by decide +kernel)⟩
theorem lw_p66 : lw_okq (⟨"FoldedRealmModel", "lays", "()V"⟩, 63) := ⟨⟨by decide +kernel, by decide +kernel⟩, List.mem_of_getElem? (i := 1247) (by decide +kernel), List.mem_of_getElem? (i := 1591) (by decide +kernel), List.mem_of_getElem? (i := 1592) (by decide +kernel)⟩
theorem lw_p67 : lw_okq (⟨"FoldedRealmModel", "readsLine", "()Z"⟩, 63) := ⟨⟨by decide +kernel, by decide +kernel⟩, List.mem_of_getElem? (i := 1247) (by decide +kernel), List.mem_of_getElem? (i := 1602) (by decide +kernel), List.mem_of_getElem? (i := 1603) (by decide +kernel)⟩
theorem lw_p68 : lw_okq (⟨"FoldedRealmModel", "laysLines", "(II)V"⟩, 63) := ⟨⟨by decide +kernel, by decide +kernel⟩, List.mem_of_getElem? (i := 1247) (by decide +kernel), List.mem_of_getElem? (i := 1606) (by decide +kernel), List.mem_of_getElem? (i := 1607) (by decide +kernel)⟩
theorem lw_p69 : lw_okq (⟨"FoldedRealmModel", "isWriter", "(I)Z"⟩, 63) := ⟨⟨by decide +kernel, by decide +kernel⟩, List.mem_of_getElem? (i := 1247) (by decide +kernel), List.mem_of_getElem? (i := 1614) (by decide +kernel), List.mem_of_getElem? (i := 1615) (by decide +kernel)⟩
theorem lw_p70 : lw_okq (⟨"FoldedRealmModel", "isTold", "(I)Z"⟩, 63) := ⟨⟨by decide +kernel, by decide +kernel⟩, List.mem_of_getElem? (i := 1247) (by decide +kernel), List.mem_of_getElem? (i := 1622) (by decide +kernel), List.mem_of_getElem? (i := 1623) (by decide +kernel)⟩
theorem lw_p71 : lw_okq (⟨"FoldedRealmModel", "likelyNow", "(I)I"⟩, 63) := ⟨⟨by decide +kernel, by decide +kernel⟩, List.mem_of_getElem? (i := 1247) (by decide +kernel), List.mem_of_getElem? (i := 1626) (by decide +kernel), List.mem_of_getElem? (i := 1627) (by decide +kernel)⟩
theorem lw_p72 : lw_okq (⟨"FoldedRealmModel", "writerOf", "(II)I"⟩, 63) := ⟨⟨by decide +kernel, by decide +kernel⟩, List.mem_of_getElem? (i := 1247) (by decide +kernel), List.mem_of_getElem? (i := 1630) (by decide +kernel), List.mem_of_getElem? (i := 1631) (by decide +kernel)⟩
theorem lw_p73 : lw_okq (⟨"FoldedRealmModel", "aheadOf", "(I)I"⟩, 63) := ⟨⟨by decide +kernel, by decide +kernel⟩, List.mem_of_getElem? (i := 1247) (by decide +kernel), List.mem_of_getElem? (i := 1634) (by decide +kernel), List.mem_of_getElem? (i := 1635) (by decide +kernel)⟩
theorem lw_p74 : lw_okq (⟨"FoldedRealmModel", "likelyBy", "(III)I"⟩, 63) := ⟨⟨by decide +kernel, by decide +kernel⟩, List.mem_of_getElem? (i := 1247) (by decide +kernel), List.mem_of_getElem? (i := 1638) (by decide +kernel), List.mem_of_getElem? (i := 1639) (by decide +kernel)⟩
theorem lw_p75 : lw_okq (⟨"FoldedRealmModel", "worked", "(I)I"⟩, 63) := ⟨⟨by decide +kernel, by decide +kernel⟩, List.mem_of_getElem? (i := 1247) (by decide +kernel), List.mem_of_getElem? (i := 1642) (by decide +kernel), List.mem_of_getElem? (i := 1643) (by decide +kernel)⟩
theorem lw_p76 : lw_okq (⟨"FoldedRealmModel", "opens", "(I)V"⟩, 63) := ⟨⟨by decide +kernel, by decide +kernel⟩, List.mem_of_getElem? (i := 1247) (by decide +kernel), List.mem_of_getElem? (i := 1646) (by decide +kernel), List.mem_of_getElem? (i := 1647) (by decide +kernel)⟩
theorem lw_p77 : lw_okq (⟨"FoldedRealmModel", "sums", "(I)V"⟩, 63) := ⟨⟨by decide +kernel, by decide +kernel⟩, List.mem_of_getElem? (i := 1247) (by decide +kernel), List.mem_of_getElem? (i := 1650) (by decide +kernel), List.mem_of_getElem? (i := 1651) (by decide +kernel)⟩
theorem lw_p78 : lw_okq (⟨"FoldedRealmModel", "tests", "(I)V"⟩, 63) := ⟨⟨by decide +kernel, by decide +kernel⟩, List.mem_of_getElem? (i := 1247) (by decide +kernel), List.mem_of_getElem? (i := 1654) (by decide +kernel), List.mem_of_getElem? (i := 1655) (by decide +kernel)⟩
theorem lw_p79 : lw_okq (⟨"FoldedRealmModel", "canWrite", "(I)Z"⟩, 63) := ⟨⟨by decide +kernel, by decide +kernel⟩, List.mem_of_getElem? (i := 1247) (by decide +kernel), List.mem_of_getElem? (i := 1674) (by decide +kernel), List.mem_of_getElem? (i := 1675) (by decide +kernel)⟩
def lw_privs_5 : List (MethodName × Nat) := [(⟨"FoldedRealmModel", "fact", "()I"⟩, 63), (⟨"FoldedRealmModel", "puts", "(I)V"⟩, 63), (⟨"FoldedRealmModel", "lays", "()V"⟩, 63), (⟨"FoldedRealmModel", "readsLine", "()Z"⟩, 63), (⟨"FoldedRealmModel", "laysLines", "(II)V"⟩, 63), (⟨"FoldedRealmModel", "isWriter", "(I)Z"⟩, 63), (⟨"FoldedRealmModel", "isTold", "(I)Z"⟩, 63), (⟨"FoldedRealmModel", "likelyNow", "(I)I"⟩, 63), (⟨"FoldedRealmModel", "writerOf", "(II)I"⟩, 63), (⟨"FoldedRealmModel", "aheadOf", "(I)I"⟩, 63), (⟨"FoldedRealmModel", "likelyBy", "(III)I"⟩, 63), (⟨"FoldedRealmModel", "worked", "(I)I"⟩, 63), (⟨"FoldedRealmModel", "opens", "(I)V"⟩, 63), (⟨"FoldedRealmModel", "sums", "(I)V"⟩, 63), (⟨"FoldedRealmModel", "tests", "(I)V"⟩, 63), (⟨"FoldedRealmModel", "canWrite", "(I)Z"⟩, 63)]
theorem lw_r5 : ∀ q ∈ lw_privs_5, lw_okq q := List.forall_mem_cons.mpr ⟨lw_p64, List.forall_mem_cons.mpr ⟨lw_p65, List.forall_mem_cons.mpr ⟨lw_p66, List.forall_mem_cons.mpr ⟨lw_p67, List.forall_mem_cons.mpr ⟨lw_p68, List.forall_mem_cons.mpr ⟨lw_p69, List.forall_mem_cons.mpr ⟨lw_p70, List.forall_mem_cons.mpr ⟨lw_p71, List.forall_mem_cons.mpr ⟨lw_p72, List.forall_mem_cons.mpr ⟨lw_p73, List.forall_mem_cons.mpr ⟨lw_p74, List.forall_mem_cons.mpr ⟨lw_p75, List.forall_mem_cons.mpr ⟨lw_p76, List.forall_mem_cons.mpr ⟨lw_p77, List.forall_mem_cons.mpr ⟨lw_p78, List.forall_mem_cons.mpr ⟨lw_p79, fun _ h => absurd h List.not_mem_nil⟩⟩⟩⟩⟩⟩⟩⟩⟩⟩⟩⟩⟩⟩⟩⟩
theorem lw_p80 : lw_okq (⟨"FoldedRealmModel", "keeps", "()V"⟩, 63) := ⟨⟨by decide +kernel, by decide +kernel⟩, List.mem_of_getElem? (i := 1247) (by decide +kernel), List.mem_of_getElem? (i := 1678) (by decide +kernel), List.mem_of_getElem? (i := 1679) (by decide +kernel)⟩
theorem lw_p81 : lw_okq (⟨"FoldedRealmModel", "laysWord", "(I)V"⟩, 63) := ⟨⟨by decide +kernel, by decide +kernel⟩, List.mem_of_getElem? (i := 1247) (by decide +kernel), List.mem_of_getElem? (i := 1685) (by decide +kernel), List.mem_of_getElem? (i := 1686) (by decide +kernel)⟩
theorem lw_p82 : lw_okq (⟨"FoldedRealmModel", "ends", "()V"⟩, 63) := ⟨⟨by decide +kernel, by decide +kernel⟩, List.mem_of_getElem? (i := 1247) (by decide +kernel), List.mem_of_getElem? (i := 1689) (by decide +kernel), List.mem_of_getElem? (i := 1690) (by decide +kernel)⟩
theorem lw_p83 : lw_okq (⟨"FoldedRealmModel", "doesBy", "(II)I"⟩, 63) := ⟨⟨by decide +kernel, by decide +kernel⟩, List.mem_of_getElem? (i := 1247) (by decide +kernel), List.mem_of_getElem? (i := 1693) (by decide +kernel), List.mem_of_getElem? (i := 1694) (by decide +kernel)⟩
theorem lw_p84 : lw_okq (⟨"FoldedRealmModel", "fallsOff", "(I)V"⟩, 63) := ⟨⟨by decide +kernel, by decide +kernel⟩, List.mem_of_getElem? (i := 1247) (by decide +kernel), List.mem_of_getElem? (i := 1697) (by decide +kernel), List.mem_of_getElem? (i := 1698) (by decide +kernel)⟩
theorem lw_p85 : lw_okq (⟨"FoldedRealmModel", "canPass", "()Z"⟩, 63) := ⟨⟨by decide +kernel, by decide +kernel⟩, List.mem_of_getElem? (i := 1247) (by decide +kernel), List.mem_of_getElem? (i := 1705) (by decide +kernel), List.mem_of_getElem? (i := 1706) (by decide +kernel)⟩
theorem lw_p86 : lw_okq (⟨"FoldedRealmModel", "burns", "(I)V"⟩, 63) := ⟨⟨by decide +kernel, by decide +kernel⟩, List.mem_of_getElem? (i := 1247) (by decide +kernel), List.mem_of_getElem? (i := 1713) (by decide +kernel), List.mem_of_getElem? (i := 1714) (by decide +kernel)⟩
theorem lw_p87 : lw_okq (⟨"FoldedRealmModel", "goes", "(I)Z"⟩, 63) := ⟨⟨by decide +kernel, by decide +kernel⟩, List.mem_of_getElem? (i := 1247) (by decide +kernel), List.mem_of_getElem? (i := 1726) (by decide +kernel), List.mem_of_getElem? (i := 1727) (by decide +kernel)⟩
theorem lw_p88 : lw_okq (⟨"FoldedRealmModel", "doesLastClash", "()Z"⟩, 63) := ⟨⟨by decide +kernel, by decide +kernel⟩, List.mem_of_getElem? (i := 1247) (by decide +kernel), List.mem_of_getElem? (i := 1730) (by decide +kernel), List.mem_of_getElem? (i := 1731) (by decide +kernel)⟩
theorem lw_p89 : lw_okq (⟨"FoldedRealmModel", "doClash", "(II)Z"⟩, 63) := ⟨⟨by decide +kernel, by decide +kernel⟩, List.mem_of_getElem? (i := 1247) (by decide +kernel), List.mem_of_getElem? (i := 1734) (by decide +kernel), List.mem_of_getElem? (i := 1735) (by decide +kernel)⟩
theorem lw_p90 : lw_okq (⟨"FoldedRealmModel", "wordsOf", "(I)I"⟩, 63) := ⟨⟨by decide +kernel, by decide +kernel⟩, List.mem_of_getElem? (i := 1247) (by decide +kernel), List.mem_of_getElem? (i := 1738) (by decide +kernel), List.mem_of_getElem? (i := 1739) (by decide +kernel)⟩
theorem lw_p91 : lw_okq (⟨"FoldedRealmModel", "wordIn", "(II)I"⟩, 63) := ⟨⟨by decide +kernel, by decide +kernel⟩, List.mem_of_getElem? (i := 1247) (by decide +kernel), List.mem_of_getElem? (i := 1749) (by decide +kernel), List.mem_of_getElem? (i := 1750) (by decide +kernel)⟩
theorem lw_p92 : lw_okq (⟨"FoldedRealmModel", "goesOn", "(III)Z"⟩, 63) := ⟨⟨by decide +kernel, by decide +kernel⟩, List.mem_of_getElem? (i := 1247) (by decide +kernel), List.mem_of_getElem? (i := 1753) (by decide +kernel), List.mem_of_getElem? (i := 1754) (by decide +kernel)⟩
theorem lw_p93 : lw_okq (⟨"FoldedRealmModel", "allLikely", "(III)I"⟩, 63) := ⟨⟨by decide +kernel, by decide +kernel⟩, List.mem_of_getElem? (i := 1247) (by decide +kernel), List.mem_of_getElem? (i := 1757) (by decide +kernel), List.mem_of_getElem? (i := 1758) (by decide +kernel)⟩
theorem lw_p94 : lw_okq (⟨"FoldedRealmModel", "laysRows", "()V"⟩, 63) := ⟨⟨by decide +kernel, by decide +kernel⟩, List.mem_of_getElem? (i := 1247) (by decide +kernel), List.mem_of_getElem? (i := 1766) (by decide +kernel), List.mem_of_getElem? (i := 1767) (by decide +kernel)⟩
theorem lw_p95 : lw_okq (⟨"FoldedRealmModel", "rows", "(IIII)V"⟩, 63) := ⟨⟨by decide +kernel, by decide +kernel⟩, List.mem_of_getElem? (i := 1247) (by decide +kernel), List.mem_of_getElem? (i := 1770) (by decide +kernel), List.mem_of_getElem? (i := 1771) (by decide +kernel)⟩
def lw_privs_6 : List (MethodName × Nat) := [(⟨"FoldedRealmModel", "keeps", "()V"⟩, 63), (⟨"FoldedRealmModel", "laysWord", "(I)V"⟩, 63), (⟨"FoldedRealmModel", "ends", "()V"⟩, 63), (⟨"FoldedRealmModel", "doesBy", "(II)I"⟩, 63), (⟨"FoldedRealmModel", "fallsOff", "(I)V"⟩, 63), (⟨"FoldedRealmModel", "canPass", "()Z"⟩, 63), (⟨"FoldedRealmModel", "burns", "(I)V"⟩, 63), (⟨"FoldedRealmModel", "goes", "(I)Z"⟩, 63), (⟨"FoldedRealmModel", "doesLastClash", "()Z"⟩, 63), (⟨"FoldedRealmModel", "doClash", "(II)Z"⟩, 63), (⟨"FoldedRealmModel", "wordsOf", "(I)I"⟩, 63), (⟨"FoldedRealmModel", "wordIn", "(II)I"⟩, 63), (⟨"FoldedRealmModel", "goesOn", "(III)Z"⟩, 63), (⟨"FoldedRealmModel", "allLikely", "(III)I"⟩, 63), (⟨"FoldedRealmModel", "laysRows", "()V"⟩, 63), (⟨"FoldedRealmModel", "rows", "(IIII)V"⟩, 63)]
theorem lw_r6 : ∀ q ∈ lw_privs_6, lw_okq q := List.forall_mem_cons.mpr ⟨lw_p80, List.forall_mem_cons.mpr ⟨lw_p81, List.forall_mem_cons.mpr ⟨lw_p82, List.forall_mem_cons.mpr ⟨lw_p83, List.forall_mem_cons.mpr ⟨lw_p84, List.forall_mem_cons.mpr ⟨lw_p85, List.forall_mem_cons.mpr ⟨lw_p86, List.forall_mem_cons.mpr ⟨lw_p87, List.forall_mem_cons.mpr ⟨lw_p88, List.forall_mem_cons.mpr ⟨lw_p89, List.forall_mem_cons.mpr ⟨lw_p90, List.forall_mem_cons.mpr ⟨lw_p91, List.forall_mem_cons.mpr ⟨lw_p92, List.forall_mem_cons.mpr ⟨lw_p93, List.forall_mem_cons.mpr ⟨lw_p94, List.forall_mem_cons.mpr ⟨lw_p95, fun _ h => absurd h List.not_mem_nil⟩⟩⟩⟩⟩⟩⟩⟩⟩⟩⟩⟩⟩⟩⟩⟩
theorem lw_p96 : lw_okq (⟨"FoldedRealmModel", "endsRow", "(II)V"⟩, 63) := ⟨⟨by decide +kernel, by decide +kernel⟩, List.mem_of_getElem? (i := 1247) (by decide +kernel), List.mem_of_getElem? (i := 1774) (by decide +kernel), List.mem_of_getElem? (i := 1775) (by decide +kernel)⟩
theorem lw_p97 : lw_okq (⟨"FoldedRealmModel", "noneOnly", "()V"⟩, 63) := ⟨⟨by decide +kernel, by decide +kernel⟩, List.mem_of_getElem? (i := 1247) (by decide +kernel), List.mem_of_getElem? (i := 1791) (by decide +kernel), List.mem_of_getElem? (i := 1792) (by decide +kernel)⟩
theorem lw_p98 : lw_okq (⟨"FoldedRealmModel", "sharesOut", "(III)I"⟩, 63) := ⟨⟨by decide +kernel, by decide +kernel⟩, List.mem_of_getElem? (i := 1247) (by decide +kernel), List.mem_of_getElem? (i := 1796) (by decide +kernel), List.mem_of_getElem? (i := 1797) (by decide +kernel)⟩
theorem lw_p99 : lw_okq (⟨"FoldedRealmModel", "sharesFrom", "(IIII)V"⟩, 63) := ⟨⟨by decide +kernel, by decide +kernel⟩, List.mem_of_getElem? (i := 1247) (by decide +kernel), List.mem_of_getElem? (i := 1800) (by decide +kernel), List.mem_of_getElem? (i := 1801) (by decide +kernel)⟩
theorem lw_p100 : lw_okq (⟨"FoldedRealmModel", "goesOnAt", "(II)Z"⟩, 63) := ⟨⟨by decide +kernel, by decide +kernel⟩, List.mem_of_getElem? (i := 1247) (by decide +kernel), List.mem_of_getElem? (i := 1804) (by decide +kernel), List.mem_of_getElem? (i := 1805) (by decide +kernel)⟩
theorem lw_p101 : lw_okq (⟨"FoldedRealmModel", "allWholes", "()I"⟩, 63) := ⟨⟨by decide +kernel, by decide +kernel⟩, List.mem_of_getElem? (i := 1247) (by decide +kernel), List.mem_of_getElem? (i := 1816) (by decide +kernel), List.mem_of_getElem? (i := 1817) (by decide +kernel)⟩
theorem lw_p102 : lw_okq (⟨"FoldedRealmModel", "clashesOf", "(I)I"⟩, 63) := ⟨⟨by decide +kernel, by decide +kernel⟩, List.mem_of_getElem? (i := 1247) (by decide +kernel), List.mem_of_getElem? (i := 1820) (by decide +kernel), List.mem_of_getElem? (i := 1821) (by decide +kernel)⟩
theorem lw_p103 : lw_okq (⟨"FoldedRealmModel", "beganBy", "()I"⟩, 63) := ⟨⟨by decide +kernel, by decide +kernel⟩, List.mem_of_getElem? (i := 1247) (by decide +kernel), List.mem_of_getElem? (i := 1836) (by decide +kernel), List.mem_of_getElem? (i := 1837) (by decide +kernel)⟩
theorem lw_p104 : lw_okq (⟨"FoldedRealmModel", "laysOnly", "()Z"⟩, 63) := ⟨⟨by decide +kernel, by decide +kernel⟩, List.mem_of_getElem? (i := 1247) (by decide +kernel), List.mem_of_getElem? (i := 1840) (by decide +kernel), List.mem_of_getElem? (i := 1841) (by decide +kernel)⟩
theorem lw_p105 : lw_okq (⟨"FoldedRealmModel", "likeliest", "(II)I"⟩, 63) := ⟨⟨by decide +kernel, by decide +kernel⟩, List.mem_of_getElem? (i := 1247) (by decide +kernel), List.mem_of_getElem? (i := 1852) (by decide +kernel), List.mem_of_getElem? (i := 1853) (by decide +kernel)⟩
theorem lw_p106 : lw_okq (⟨"FoldedRealmModel", "livesWord", "()Z"⟩, 63) := ⟨⟨by decide +kernel, by decide +kernel⟩, List.mem_of_getElem? (i := 1247) (by decide +kernel), List.mem_of_getElem? (i := 1871) (by decide +kernel), List.mem_of_getElem? (i := 1872) (by decide +kernel)⟩
theorem lw_p107 : lw_okq (⟨"FoldedRealmModel", "draws", "(I)I"⟩, 63) := ⟨⟨by decide +kernel, by decide +kernel⟩, List.mem_of_getElem? (i := 1247) (by decide +kernel), List.mem_of_getElem? (i := 1875) (by decide +kernel), List.mem_of_getElem? (i := 1876) (by decide +kernel)⟩
theorem lw_p108 : lw_okq (⟨"FoldedRealmModel", "laysRead", "(II)V"⟩, 63) := ⟨⟨by decide +kernel, by decide +kernel⟩, List.mem_of_getElem? (i := 1247) (by decide +kernel), List.mem_of_getElem? (i := 1887) (by decide +kernel), List.mem_of_getElem? (i := 1888) (by decide +kernel)⟩
theorem lw_p109 : lw_okq (⟨"FoldedRealmModel", "allLeft", "()I"⟩, 63) := ⟨⟨by decide +kernel, by decide +kernel⟩, List.mem_of_getElem? (i := 1247) (by decide +kernel), List.mem_of_getElem? (i := 1895) (by decide +kernel), List.mem_of_getElem? (i := 1896) (by decide +kernel)⟩
def lw_privs_7 : List (MethodName × Nat) := [(⟨"FoldedRealmModel", "endsRow", "(II)V"⟩, 63), (⟨"FoldedRealmModel", "noneOnly", "()V"⟩, 63), (⟨"FoldedRealmModel", "sharesOut", "(III)I"⟩, 63), (⟨"FoldedRealmModel", "sharesFrom", "(IIII)V"⟩, 63), (⟨"FoldedRealmModel", "goesOnAt", "(II)Z"⟩, 63), (⟨"FoldedRealmModel", "allWholes", "()I"⟩, 63), (⟨"FoldedRealmModel", "clashesOf", "(I)I"⟩, 63), (⟨"FoldedRealmModel", "beganBy", "()I"⟩, 63), (⟨"FoldedRealmModel", "laysOnly", "()Z"⟩, 63), (⟨"FoldedRealmModel", "likeliest", "(II)I"⟩, 63), (⟨"FoldedRealmModel", "livesWord", "()Z"⟩, 63), (⟨"FoldedRealmModel", "draws", "(I)I"⟩, 63), (⟨"FoldedRealmModel", "laysRead", "(II)V"⟩, 63), (⟨"FoldedRealmModel", "allLeft", "()I"⟩, 63)]
theorem lw_r7 : ∀ q ∈ lw_privs_7, lw_okq q := List.forall_mem_cons.mpr ⟨lw_p96, List.forall_mem_cons.mpr ⟨lw_p97, List.forall_mem_cons.mpr ⟨lw_p98, List.forall_mem_cons.mpr ⟨lw_p99, List.forall_mem_cons.mpr ⟨lw_p100, List.forall_mem_cons.mpr ⟨lw_p101, List.forall_mem_cons.mpr ⟨lw_p102, List.forall_mem_cons.mpr ⟨lw_p103, List.forall_mem_cons.mpr ⟨lw_p104, List.forall_mem_cons.mpr ⟨lw_p105, List.forall_mem_cons.mpr ⟨lw_p106, List.forall_mem_cons.mpr ⟨lw_p107, List.forall_mem_cons.mpr ⟨lw_p108, List.forall_mem_cons.mpr ⟨lw_p109, fun _ h => absurd h List.not_mem_nil⟩⟩⟩⟩⟩⟩⟩⟩⟩⟩⟩⟩⟩⟩
def lw_privs : List (MethodName × Nat) := lw_privs_1 ++ (lw_privs_2 ++ (lw_privs_3 ++ (lw_privs_4 ++ (lw_privs_5 ++ (lw_privs_6 ++ (lw_privs_7))))))
def lw_tbl : List Cond := k2_sels lw_privs ++ tables_1
theorem lw_privs_ok : ∀ q ∈ lw_privs, lw_okq q := by
  show ∀ q ∈ lw_privs_1 ++ (lw_privs_2 ++ (lw_privs_3 ++ (lw_privs_4 ++ (lw_privs_5 ++ (lw_privs_6 ++ (lw_privs_7)))))), lw_okq q
  exact List.forall_mem_append.mpr ⟨lw_r1, List.forall_mem_append.mpr ⟨lw_r2, List.forall_mem_append.mpr ⟨lw_r3, List.forall_mem_append.mpr ⟨lw_r4, List.forall_mem_append.mpr ⟨lw_r5, List.forall_mem_append.mpr ⟨lw_r6, lw_r7⟩⟩⟩⟩⟩⟩
end
section
/-! ===== BEGIN words of one list among another's, by their places ===== -/
theorem goodIn_r {big : List Cond} (ws : List Cond) (ps : List Nat) (hp : ws = ps.filterMap (fun i => big[i]?)) (h : ws.all goodWord = true) : GoodIn big ws := by
  intro w hw
  have h1 := List.all_eq_true.mp h w hw
  rw [hp] at hw
  obtain ⟨i, -, hi⟩ := List.mem_filterMap.mp hw
  have hm : w ∈ big := by first | exact List.mem_of_getElem? hi | exact List.getElem?_mem hi
  exact ⟨hm, good_of_word h1⟩
theorem goodIn_app {big a b : List Cond} (ha : GoodIn big a) (hb : GoodIn big b) : GoodIn big (a ++ b) := fun w h => (List.mem_append.mp h).elim (ha w) (hb w)
theorem goodIn_ca {big a b : List Cond} {c : Cond} (ha : GoodIn big (c :: a)) (hb : GoodIn big b) : GoodIn big (c :: (a ++ b)) := fun w h => (List.mem_cons.mp h).elim (fun e => ha w (List.mem_cons.mpr (Or.inl e))) (fun h => (List.mem_append.mp h).elim (fun h => ha w (List.mem_cons.mpr (Or.inr h))) (hb w))
theorem goodIn_sub {big ws : List Cond} (hm : ∀ w ∈ ws, w ∈ big) (h : ws.all goodWord = true) : GoodIn big ws := fun w hw => ⟨hm w hw, good_of_word (List.all_eq_true.mp h w hw)⟩
/-! ===== END ===== -/

/-! ===== BEGIN exceptions that leave a method, and their catching by the caller (launches without stack traces) ===== -/
section VXA
/-! The laws vx_back, vx_callV, vx_callS, vx_callSW, vx_throw0, vx_throwS follow proofs of the library, with one case more: JvmDerived/Free/Laws.lean (Back.of_free), Shelf42/LK1.lean (callV, callS), Shelf/KitTraced.lean (throwNew0V, throwNewS). -/
/-- where a method has thrown q: the class by its name, the cell, what was written, the world -/
def vx_T (XC : String → State → State → Prop) (st : State) (q : Addr) (t : State) (mc ms : Nat) (free : Addr → Prop) : Prop :=
  ∃ (E : String) (ce : Cell) (L : List Loc), XC E st t ∧ t.heap[q]? = some ce ∧ ce.vm = .none ∧ st.vm.findClass E = some ce.cls ∧ st.WarmedH t.vm ∧ st.sameButNew ({ t with vm := st.vm } : State) L mc ms ∧ ∀ z ∈ L, free z.base
def vx_Q (Qc : Array Value → State → Outcome → State → Prop) (XC : String → State → State → Prop) (mc ms : Nat) (free : Addr → Prop) : Array Value → State → Outcome → State → Prop := fun a st o t =>
  (Qc a st o t ∧ ∃ L, FrameEnd st o t L mc ms ∧ ∀ q ∈ L, free q.base) ∨ ∃ q, o = .threw q ∧ vx_T XC st q t mc ms free
/-- a callee that returns or throws -/
def vx_Met (l : Launch) (y : MethodName) (ws : List Cond) (rm : Room) (Pc : Array Value → State → Prop) (Qc : Array Value → State → Outcome → State → Prop) (XC : String → State → State → Prop) (mc ms : Nat) (free : Addr → Prop) : Prop :=
  MetFree l y (headSpec ws rm) Pc (fun _ _ _ _ _ => True) (vx_Q Qc XC mc ms free)
def vx_Post (XC : String → State → State → Prop) (mc ms : Nat) (free : Addr → Prop) : Pt → Array Value → Addr → Pt → Prop := fun A a q B =>
  ∃ (g : JFrame) (mk : MethodId) (t : State) (L : List Loc) (E : String) (ce : Cell), B.U.heap = t.heap ∧ B.U.vm = t.vm ∧ XC E (A.U.calling g mk a) t ∧ t.heap[q]? = some ce ∧ ce.vm = .none ∧ A.U.vm.findClass E = some ce.cls ∧ B.locs = A.locs ++ L ∧ (∀ z ∈ L, free z.base) ∧ B.cells = A.cells + mc ∧ B.slots = A.slots + ms
def vx_Back (l : Launch) (R : Room) (p : Program) (e : Env) (below : List Frame) (s : State) (sargs : Array Value) (y : MethodName) (len W9 : Nat)
    (Pre : Pt → Array Value → Prop) (Post : Pt → Array Value → Option Value → Pt → Prop) (PostX : Pt → Array Value → Addr → Pt → Prop) : Prop :=
  ∀ (m : MethodId) (meth : Method) (c : Code) (A : Pt) (g : JFrame) (ig : Instr) (mk : MethodId) (a : Array Value),
    Stand p l e R s m sargs below meth c A.U A.locs A.cells A.slots → g.method = m → g.locals.size = c.maxLocals → decode c.code g.pc = .ok (ig, len) →
    2 * g.monitorRoom + (g.stack.map fun v => v.category).sum ≤ W9 → A.U.methodNamed? y = some mk → Pre A a →
    (∃ (v : Option Value) (B : Pt), Stand p l e R s m sargs below meth c B.U B.locs B.cells B.slots ∧ Post A a v B ∧
      Steps p.tables e below (doInvoke e (A.U.setTop g) [] mk a).1 (B.U.setTop { g with pc := g.pc + len, stack := v.toList ++ g.stack })) ∨
    (∃ (q : Addr) (B : Pt), Stand p l e R s m sargs below meth c B.U B.locs B.cells B.slots ∧ PostX A a q B ∧
      Steps p.tables e below (doInvoke e (A.U.setTop g) [] mk a).1 ((B.U.setTop g).pushFrame (.throwing q)))
section Payer
variable {l : Launch} {R : Room} {p : Program} {e : Env} {below : List Frame} {s : State} {sargs : Array Value} {y : MethodName} {len W9 : Nat}
theorem vx_back {ws : List Cond} {rm : Room} {Pc : Array Value → State → Prop} {Qc : Array Value → State → Outcome → State → Prop} {XC : String → State → State → Prop} {mc ms : Nat} {free : Addr → Prop} {bytes : ByteArray} {maxL : Nat} {ret : Option FieldType}
    (hM : vx_Met l y ws rm Pc Qc XC mc ms free) (hblind : FrameBlind Pc) (hrc : rm.cells = mc) (hrs : rm.slots = ms)
    (hframes : rm.frames + 1 ≤ R.frames) (hlocals : W9 + (maxL + 11) + rm.locals ≤ R.locals)
    (hws : ∀ w ∈ ws, ∀ a' U, s.WarmedH U.vm → w.before a' U = true) (hcode : Cond.code y bytes maxL ret ∈ ws) (hinit : ∀ a' U, s.WarmedH U.vm → (Cond.initialized y.cls).before a' U = true) :
    vx_Back l R p e below s sargs y len W9 (PreOf R mc ms Pc) (PostOf Qc mc ms free) (vx_Post XC mc ms free) := by
  intro m meth c A g ig mk a X hg hsize hdg hW hn hp
  have h1 : (headSpec ws rm).pre.before a A.U = true := atoms_intro fun w hw => hws w hw _ _ X.warmed
  have h2 : (Cond.code y bytes maxL ret).before a A.U = true := hws _ hcode _ _ X.warmed
  have h3 : (Cond.initialized y.cls).before a A.U = true := hinit _ _ X.warmed
  have h4 : A.cells + (headSpec ws rm).room.cells ≤ R.cells := by rw [show (headSpec ws rm).room.cells = mc from hrc]; exact hp.1
  have h5 : A.slots + (headSpec ws rm).room.slots ≤ R.slots := by rw [show (headSpec ws rm).room.slots = ms from hrs]; exact hp.2.1
  have hPc : Pc a (A.U.calling g mk a) := hblind _ _ _ _ hp.2.2
  obtain ⟨U, Ls, c0, s0⟩ := A
  dsimp only [Pt.U, Pt.locs, Pt.cells, Pt.slots] at h1 h2 h3 h4 h5 X hn hPc ⊢
  obtain ⟨methY, cY, hmY, hcY, -, hlY, -, -, -, -⟩ := Cond.code_spec hn h2
  obtain ⟨kY, hkY, -⟩ := className_of_methodNamed hn
  have hinitY : kY.init = .initialized := Cond.initialized_spec (findClass_of_methodNamed hn) hkY h3
  have h : At U g.method c below := by rw [hg]; exact X.here
  have hlocals9 : W9 + (maxL + 11) + (headSpec ws rm).room.locals ≤ R.locals := hlocals
  have happ : (headSpec ws rm).appliesLoose y e.platform (U.calling g mk a) = true :=
    Spec.appliesLoose_calling (g := g) h hdg hn hkY hinitY
      (X.room_calling (g := g) (R' := (headSpec ws rm).room) hsize hmY hcY hframes (by rw [hlY]; omega) h4 h5) h1
  obtain ⟨mid, hmid⟩ := h.above
  have hfr : (U.setTop g).frames = (.java g :: mid) ++ below := by rw [State.frames_setTop' g h.top, hmid]; rfl
  obtain ⟨o, s₂, hsteps, -, hend, hq⟩ := Steps.callFree hM p X.admits X.cas X.clock (acts := []) hfr happ hPc trivial
  have hq' : vx_Q Qc XC mc ms free a (U.calling g mk a) o s₂ := hq
  rw [State.frames_setTop' g h.top] at hend
  obtain ⟨g₀, hg0⟩ := Option.isSome_iff_exists.mp h.top
  obtain ⟨r, hr⟩ := State.topJava?_eq_some.mp hg0
  have hr' : (({ U with heap := s₂.heap, slotsUsed := s₂.slotsUsed } : State).setVm s₂.vm).frames = .java g₀ :: r := hr
  rcases hq' with ⟨hqc, L, hfe, hL⟩ | ⟨q, rfl, E, ce, L, hx, hce, hcv, hcl, hW₂, hsm, hL⟩
  · obtain ⟨⟨v, rfl⟩, hW₂, e2, q2, q3, q4, q5, q6⟩ := id hfe
    have e3 : s₂ = ({ (U.calling g mk a).setFrames s₂.frames with heap := s₂.heap, slotsUsed := s₂.slotsUsed } : State).setVm s₂.vm := by
      have : s₂ = ({ s₂ with vm := (U.calling g mk a).vm } : State).setVm s₂.vm := rfl
      rw [e2] at this
      exact this
    obtain ⟨c₂, i₂, len₂, hc₂, hd₂, hf₂⟩ := hend
    have hW' : U.WarmedH s₂.vm := hW₂
    have hcc : c₂ = c := by
      have h1 : s₂.code? g.method = U.code? g.method := by
        rw [State.code?_eq, State.code?_eq, hW'.alike.method?]
      exact Option.some.inj (hc₂.symm.trans (h1.trans h.code))
    subst hcc
    have hlen : len₂ = len := by rw [hdg] at hd₂; cases hd₂; rfl
    subst hlen
    have hs₂ : s₂ = (({ U with heap := s₂.heap, slotsUsed := s₂.slotsUsed } : State).setVm s₂.vm).setTop { g with pc := g.pc + len₂, stack := v.toList ++ g.stack } := by
      refine e3.trans ?_
      rw [hf₂, State.calling_eq h.top, State.setFrames_setFrames, State.setTop_of_frames _ hr', hr]
      rfl
    have hsame : U.sameButNew ({ U with heap := s₂.heap, slotsUsed := s₂.slotsUsed } : State) L mc ms := by
      refine ⟨?_, q2, q3, q4, q5, q6⟩
      obtain ⟨t, ht, -⟩ := State.frames_cons hr
      show ({ U with heap := s₂.heap, slotsUsed := s₂.slotsUsed } : State) = { U.setFrames U.frames with heap := s₂.heap, slotsUsed := s₂.slotsUsed }
      rw [State.setFrames_self ht]
    subst hg
    refine Or.inl ⟨v, ⟨(({ U with heap := s₂.heap, slotsUsed := s₂.slotsUsed } : State).setVm s₂.vm), Ls ++ L, c0 + mc, s0 + ms⟩,
      ⟨X.admits, X.cas, X.clock, X.frames, X.room, X.hears, X.method, X.code, (X.here.setHeapUsed s₂.heap s₂.slotsUsed).setVm hW'.alike, X.tail, State.WarmedH.trans X.warmed hW', X.limits, X.bytes, X.same.trans (hsame.setVm s.vm)⟩,
      ⟨g, mk, s₂, L, rfl, rfl, hqc, rfl, hL, rfl, rfl⟩, ?_⟩
    show Steps p.tables e below _ ((({ U with heap := s₂.heap, slotsUsed := s₂.slotsUsed } : State).setVm s₂.vm).setTop { g with pc := g.pc + len₂, stack := v.toList ++ g.stack })
    rw [← hs₂]
    exact hsteps
  · obtain ⟨e2, q2, q3, q4, q5, q6⟩ := id hsm
    have e3 : s₂ = ({ (U.calling g mk a).setFrames s₂.frames with heap := s₂.heap, slotsUsed := s₂.slotsUsed } : State).setVm s₂.vm := by
      have : s₂ = ({ s₂ with vm := (U.calling g mk a).vm } : State).setVm s₂.vm := rfl
      rw [e2] at this
      exact this
    have hf₂ : s₂.frames = .throwing q :: .java g :: U.frames.tail := hend
    have hW' : U.WarmedH s₂.vm := hW₂
    have hs₂ : s₂ = ((({ U with heap := s₂.heap, slotsUsed := s₂.slotsUsed } : State).setVm s₂.vm).setTop g).pushFrame (.throwing q) := by
      refine e3.trans ?_
      rw [hf₂, State.calling_eq h.top, State.setFrames_setFrames, State.pushFrame, State.frames_setTop _ hr', State.setTop_of_frames _ hr', State.setFrames_setFrames, hr]
      rfl
    have hsame : U.sameButNew ({ U with heap := s₂.heap, slotsUsed := s₂.slotsUsed } : State) L mc ms := by
      refine ⟨?_, q2, q3, q4, q5, q6⟩
      obtain ⟨t, ht, -⟩ := State.frames_cons hr
      show ({ U with heap := s₂.heap, slotsUsed := s₂.slotsUsed } : State) = { U.setFrames U.frames with heap := s₂.heap, slotsUsed := s₂.slotsUsed }
      rw [State.setFrames_self ht]
    subst hg
    refine Or.inr ⟨q, ⟨(({ U with heap := s₂.heap, slotsUsed := s₂.slotsUsed } : State).setVm s₂.vm), Ls ++ L, c0 + mc, s0 + ms⟩,
      ⟨X.admits, X.cas, X.clock, X.frames, X.room, X.hears, X.method, X.code, (X.here.setHeapUsed s₂.heap s₂.slotsUsed).setVm hW'.alike, X.tail, State.WarmedH.trans X.warmed hW', X.limits, X.bytes, X.same.trans (hsame.setVm s.vm)⟩,
      ⟨g, mk, s₂, L, E, ce, rfl, rfl, hx, hce, hcv, hcl, rfl, hL, rfl, rfl⟩, ?_⟩
    show Steps p.tables e below _ (((({ U with heap := s₂.heap, slotsUsed := s₂.slotsUsed } : State).setVm s₂.vm).setTop g).pushFrame (.throwing q))
    rw [← hs₂]
    exact hsteps
end Payer
section Calls
variable {p : Program} {l : Launch} {e : Env} {R : Room} {s : State} {m : MethodId} {args : Array Value} {below : List Frame} {meth : Method} {c : Code} {T : State} {locs : List Loc} {cells slots : Nat}
theorem vx_callV (X : Stand p l e R s m args below meth c T locs cells slots) (hexec : p.tables.exec = Jvm.exec) {own C : String} {index : Nat} {y : MethodName} {bytes : ByteArray} {maxL : Nat} {ret : Option FieldType}
    (hown : s.vm.findClass own = some m.cls) (hlink : (Cond.methodLink own index y).before args s = true) (hinst : (Cond.instanceMethod y).before args s = true) (hsel : (Cond.selects C y y).before args s = true)
    (hcode : (Cond.code y bytes maxL ret).before args s = true) (hy : y.cls ≠ "java/lang/invoke/MethodHandle" ∧ y.cls ≠ "java/lang/invoke/VarHandle")
    {W9 : Nat} {Pre : Pt → Array Value → Prop} {Post : Pt → Array Value → Option Value → Pt → Prop} {PostX : Pt → Array Value → Addr → Pt → Prop} (hK : vx_Back l R p e below s args y 3 W9 Pre Post PostX)
    {b : Addr} {cellB : Cell} (hcell : T.heap[b]? = some cellB) (hobj : cellB.vm.isStatics = false) (hcls : s.vm.findClass C = some cellB.cls)
    {g : JFrame} (hg : g.method = m) (hsize : g.locals.size = c.maxLocals) {argsL rest : List Value} (hlen : ∀ sig, parseMethodDescriptor y.desc = some sig → argsL.length = sig.parameters.length)
    (hstack : g.stack = argsL.reverse ++ .ref b :: rest) (hW : 2 * g.monitorRoom + (rest.map fun v => v.category).sum ≤ W9) (hdg : decode c.code g.pc = .ok (.invokevirtual index, 3))
    (hpre : ∀ vm₁, s.WarmedH vm₁ → Pre ⟨T.setVm vm₁, locs, cells, slots⟩ (Value.ref b :: argsL).toArray) :
    (∃ (v : Option Value) (vm₁ : Vm) (B : Pt), s.WarmedH vm₁ ∧ Stand p l e R s m args below meth c B.U B.locs B.cells B.slots ∧ Post ⟨T.setVm vm₁, locs, cells, slots⟩ (Value.ref b :: argsL).toArray v B ∧
      ∀ target, Steps p.tables e below (B.U.setTop { g with pc := g.pc + 3, stack := v.toList ++ rest }) target → Steps p.tables e below (T.setTop g) target) ∨
    (∃ (q : Addr) (vm₁ : Vm) (B : Pt), s.WarmedH vm₁ ∧ Stand p l e R s m args below meth c B.U B.locs B.cells B.slots ∧ PostX ⟨T.setVm vm₁, locs, cells, slots⟩ (Value.ref b :: argsL).toArray q B ∧
      Steps p.tables e below (T.setTop g) ((B.U.setTop { g with stack := rest }).pushFrame (.throwing q))) := by
  obtain ⟨mk, methM, hnamed, hmethM, hstM, habM⟩ := Cond.instanceMethod_spec hinst
  obtain ⟨methM', cM, hmethM', -, -, -, -, -, -, hsigM⟩ := Cond.code_spec hnamed hcode
  cases hmethM.symm.trans hmethM'
  obtain ⟨c2, r2, m2, q1, q2, q3, q4, kP, hkP, hkPi⟩ := Cond.selects_spec hsel
  cases hcls.symm.trans q1
  cases (State.methodFound?_of_named hnamed hy).symm.trans q2
  cases hnamed.symm.trans q3
  have hselP : selectMethod e.platform s.vm cellB.cls mk = .method mk := by rw [Launch.admits_selectMethod X.admits]; exact q4
  obtain ⟨vm₁, X₁, hstep₁⟩ := X.invokevirtual hexec hown hlink hnamed hmethM hstM hkP hkPi hy (a := b) (cell := cellB) hcell
    (fun z h => by rw [h] at hobj; cases hobj) hselP hmethM habM hkP hkPi (g := g) hg (argsL := argsL) (rest := rest) (hlen _ hsigM) hstack hdg
  rcases hK m meth c ⟨T.setVm vm₁, locs, cells, slots⟩ { g with stack := rest } (.invokevirtual index) mk (Value.ref b :: argsL).toArray X₁ hg hsize hdg hW (X₁.named hnamed) (hpre vm₁ X₁.warmed) with ⟨v, B, X', hpost, hsteps⟩ | ⟨q, B, X', hpost, hsteps⟩
  · exact Or.inl ⟨v, vm₁, B, X₁.warmed, X', hpost, fun target h => hstep₁ _ fun acts => by rw [doInvoke_state]; exact hsteps.trans h⟩
  · exact Or.inr ⟨q, vm₁, B, X₁.warmed, X', hpost, hstep₁ _ fun acts => by rw [doInvoke_state]; exact hsteps⟩
theorem vx_callS (X : Stand p l e R s m args below meth c T locs cells slots) (hexec : p.tables.exec = Jvm.exec) {own : String} {index : Nat} {y : MethodName} {bytes : ByteArray} {maxL : Nat} {ret : Option FieldType}
    (hown : s.vm.findClass own = some m.cls) (hlink : (Cond.methodLink own index y).before args s = true) (hstat : (Cond.static y).before args s = true) (hinit : (Cond.initialized y.cls).before args s = true)
    (hcode : (Cond.code y bytes maxL ret).before args s = true) (hy : y.cls ≠ "java/lang/invoke/MethodHandle" ∧ y.cls ≠ "java/lang/invoke/VarHandle")
    {W9 : Nat} {Pre : Pt → Array Value → Prop} {Post : Pt → Array Value → Option Value → Pt → Prop} {PostX : Pt → Array Value → Addr → Pt → Prop} (hK : vx_Back l R p e below s args y 3 W9 Pre Post PostX)
    {g : JFrame} (hg : g.method = m) (hsize : g.locals.size = c.maxLocals) {argsL rest : List Value} (hlen : ∀ sig, parseMethodDescriptor y.desc = some sig → argsL.length = sig.parameters.length)
    (hstack : g.stack = argsL.reverse ++ rest) (hW : 2 * g.monitorRoom + (rest.map fun v => v.category).sum ≤ W9) (hdg : decode c.code g.pc = .ok (.invokestatic index, 3))
    (hpre : ∀ vm₁, s.WarmedH vm₁ → Pre ⟨T.setVm vm₁, locs, cells, slots⟩ argsL.toArray) :
    (∃ (v : Option Value) (vm₁ : Vm) (B : Pt), s.WarmedH vm₁ ∧ Stand p l e R s m args below meth c B.U B.locs B.cells B.slots ∧ Post ⟨T.setVm vm₁, locs, cells, slots⟩ argsL.toArray v B ∧
      ∀ target, Steps p.tables e below (B.U.setTop { g with pc := g.pc + 3, stack := v.toList ++ rest }) target → Steps p.tables e below (T.setTop g) target) ∨
    (∃ (q : Addr) (vm₁ : Vm) (B : Pt), s.WarmedH vm₁ ∧ Stand p l e R s m args below meth c B.U B.locs B.cells B.slots ∧ PostX ⟨T.setVm vm₁, locs, cells, slots⟩ argsL.toArray q B ∧
      Steps p.tables e below (T.setTop g) ((B.U.setTop { g with stack := rest }).pushFrame (.throwing q))) := by
  obtain ⟨mk, hnamed⟩ := Cond.code_named hcode
  obtain ⟨methM, cM, hmethM, -, -, -, -, -, -, hsigM⟩ := Cond.code_spec hnamed hcode
  have hstatic : methM.isStatic = true := Cond.static_spec hnamed hmethM hstat
  obtain ⟨kP, hkP, -⟩ := className_of_methodNamed hnamed
  have hinitP : kP.init = .initialized := Cond.initialized_spec (findClass_of_methodNamed hnamed) hkP hinit
  obtain ⟨vm₁, X₁, hstep₁⟩ := X.invokestatic hexec hown hlink hnamed hmethM hstatic hkP hinitP hy (g := g) hg (argsL := argsL) (rest := rest) (hlen _ hsigM) hstack hdg
  rcases hK m meth c ⟨T.setVm vm₁, locs, cells, slots⟩ { g with stack := rest } (.invokestatic index) mk argsL.toArray X₁ hg hsize hdg hW (X₁.named hnamed) (hpre vm₁ X₁.warmed) with ⟨v, B, X', hpost, hsteps⟩ | ⟨q, B, X', hpost, hsteps⟩
  · exact Or.inl ⟨v, vm₁, B, X₁.warmed, X', hpost, fun target h => hstep₁ _ fun acts => by rw [doInvoke_state]; exact hsteps.trans h⟩
  · exact Or.inr ⟨q, vm₁, B, X₁.warmed, X', hpost, hstep₁ _ fun acts => by rw [doInvoke_state]; exact hsteps⟩
end Calls
theorem vx_cls {s : State} {T : State} {vm₁ : Vm} {E : String} {k : ClassId} (hW : s.WarmedH vm₁) (h : (T.setVm vm₁).vm.findClass E = some k) : s.vm.findClass E = some k := by
  have h1 : vm₁.findClass E = some k := h
  rw [hW.alike.findClass] at h1
  exact h1
/-- the method's frame g, with q thrown over it -/
def vx_W (p : Program) (l : Launch) (e : Env) (R : Room) (s : State) (m : MethodId) (args : Array Value) (below : List Frame) (meth : Method) (c : Code) (H : Heap) (locs : List Loc) (cells slots : Nat) (Q : State → Prop) (g : JFrame) (q : Addr) : Prop :=
  ∀ T : State, T.heap = H → Stand p l e R s m args below meth c T locs cells slots → ∃ t, Steps p.tables e below ((T.setTop g).pushFrame (.throwing q)) t ∧ Q t
def vx_Run (p : Program) (l : Launch) (e : Env) (R : Room) (s : State) (m : MethodId) (args : Array Value) (below : List Frame) (meth : Method) (c : Code) (H : Heap) (locs : List Loc) (cells slots mc ms : Nat) (g : JFrame) (rest : List Value) (Qa : State → Outcome → State → Prop) (XC : String → State → State → Prop) (free : Addr → Prop) : Prop :=
  ∀ T : State, T.heap = H → Stand p l e R s m args below meth c T locs cells slots →
    (∃ (v : Option Value) (st₀ t T' : State) (L : List Loc), st₀.heap = H ∧ Stand p l e R s m args below meth c T' (locs ++ L) (cells + mc) (slots + ms) ∧ (∀ q ∈ L, free q.base) ∧ T'.heap = t.heap ∧ T'.vm = t.vm ∧ Qa st₀ (.returned v) t ∧
      Goes p e below T g T' { g with pc := g.pc + 3, stack := v.toList ++ rest }) ∨
    (∃ (q : Addr) (st₀ t T' : State) (L : List Loc) (E : String) (ce : Cell), st₀.heap = H ∧ Stand p l e R s m args below meth c T' (locs ++ L) (cells + mc) (slots + ms) ∧ (∀ z ∈ L, free z.base) ∧ T'.heap = t.heap ∧ T'.vm = t.vm ∧ XC E st₀ t ∧ t.heap[q]? = some ce ∧ ce.vm = .none ∧ s.vm.findClass E = some ce.cls ∧
      Steps p.tables e below (T.setTop g) ((T'.setTop { g with stack := rest }).pushFrame (.throwing q)))
def vx_X {S : Type} (px : S → Prop) (B : String → S → State → Prop) (A : Nat → Prop) : String → State → State → Prop := fun E st t => ∃ u : S, px u ∧ B E u t ∧ va_F A st t
section Runs
variable {p : Program} {l : Launch} {e : Env} {R : Room} {s : State} {m : MethodId} {args : Array Value} {below : List Frame} {meth : Method} {c : Code} {H : Heap} {locs : List Loc} {cells slots : Nat}
variable {y : MethodName} {bytes cc : ByteArray} {maxL nL mc ms n index : Nat} {ret : Option FieldType} {ws : List Cond} {rm : Room} {Pc : Array Value → State → Prop} {Qc : Array Value → State → Outcome → State → Prop} {XC : String → State → State → Prop} {free : Addr → Prop} {Ts : List Cond} {own C : String} {b : Addr} {As rest : List Value} {g : JFrame}
theorem vx_callBack (cb : CallB R s args own index y bytes maxL ret ws rm mc ms n) (hM : vx_Met l y ws rm Pc Qc XC mc ms free) (hbl : FrameBlind Pc) : vx_Back l R p e below s args y 3 8 (PreOf R mc ms Pc) (PostOf Qc mc ms free) (vx_Post XC mc ms free) := by
  obtain ⟨hrc, hrs, hfr, hlo, hws, hcw, -, hini, -⟩ := cb
  exact vx_back (bytes := bytes) (maxL := maxL) (ret := ret) hM hbl hrc hrs hfr hlo hws hcw (fun a' U hW => word_at hW (Or.inl (by first | rfl | simp [Cond.onTables, Cond.keeps, Cond.steady])) hini)
theorem vx_runV (S : CallFix p m c cc nL s args Ts own) (hM : vx_Met l y ws rm Pc Qc XC mc ms free) (cw : CallW R s args own C index y bytes maxL ret ws rm mc ms n) (hp : PreV s H C b Pc As)
    (hg : g.method = m) (hn : As.length = n) (hsize : g.locals.size = nL) (hstack : g.stack = As.reverse ++ .ref b :: rest) (hW : 2 * g.monitorRoom + (rest.map fun v => v.category).sum ≤ 8) (hdg : decode cc g.pc = .ok (.invokevirtual index, 3)) (hf : cells + mc ≤ R.cells ∧ slots + ms ≤ R.slots) :
    vx_Run p l e R s m args below meth c H locs cells slots mc ms g rest (Qc (Value.ref b :: As).toArray) XC free := by
  have hK : vx_Back l R p e below s args y 3 8 (PreOf R mc ms Pc) (PostOf Qc mc ms free) (vx_Post XC mc ms free) := vx_callBack cw.1 hM hp.1
  obtain ⟨⟨-, -, -, -, -, -, hcode, -, hy, hlen, hl⟩, hin, hse⟩ := cw
  obtain ⟨hx, hb, hml, ho, -⟩ := S
  obtain ⟨-, ⟨cellB, hcB, hoB, hclB⟩, hPc⟩ := hp
  intro T hT X
  rcases vx_callV X hx (C := C) (bytes := bytes) (maxL := maxL) (ret := ret) ho hl hin hse hcode hy hK (by rw [hT]; exact hcB) hoB hclB hg (hsize.trans hml.symm) (argsL := As) (rest := rest) (fun sig h => hn.trans (hlen sig h)) hstack hW (by rw [hb]; exact hdg)
    (fun vm₁ hW₁ => ⟨hf.1, hf.2, hPc (T.setVm vm₁) hT hW₁⟩) with ⟨v, vm₁, ⟨U', l2, c2, s2⟩, hW₁, X', ⟨g', mk, t, L, e1, e2, hq, h1, hL, h2, h3⟩, st⟩ | ⟨q, vm₁, ⟨U', l2, c2, s2⟩, hW₁, X', ⟨g', mk, t, L, E, ce, e1, e2, hq, hce, hcv, hcl, h1, hL, h2, h3⟩, st⟩
  · dsimp only [Pt.U, Pt.locs, Pt.cells, Pt.slots] at X' e1 e2 h1 h2 h3 st
    subst h1; subst h2; subst h3
    exact Or.inl ⟨v, (T.setVm vm₁).calling g' mk (Value.ref b :: As).toArray, t, U', L, hT, X', hL, e1, e2, hq, st⟩
  · dsimp only [Pt.U, Pt.locs, Pt.cells, Pt.slots] at X' e1 e2 h1 h2 h3 st hcl
    subst h1; subst h2; subst h3
    exact Or.inr ⟨q, (T.setVm vm₁).calling g' mk (Value.ref b :: As).toArray, t, U', L, E, ce, hT, X', hL, e1, e2, hq, hce, hcv, vx_cls hW₁ hcl, st⟩
theorem vx_runS (S : CallFix p m c cc nL s args Ts own) (hM : vx_Met l y ws rm Pc Qc XC mc ms free) (cw : CallB R s args own index y bytes maxL ret ws rm mc ms n ∧ (Cond.static y).before args s = true) (hp : PreS s H Pc As)
    (hg : g.method = m) (hn : As.length = n) (hsize : g.locals.size = nL) (hstack : g.stack = As.reverse ++ rest) (hW : 2 * g.monitorRoom + (rest.map fun v => v.category).sum ≤ 8) (hdg : decode cc g.pc = .ok (.invokestatic index, 3)) (hf : cells + mc ≤ R.cells ∧ slots + ms ≤ R.slots) :
    vx_Run p l e R s m args below meth c H locs cells slots mc ms g rest (Qc As.toArray) XC free := by
  have hK : vx_Back l R p e below s args y 3 8 (PreOf R mc ms Pc) (PostOf Qc mc ms free) (vx_Post XC mc ms free) := vx_callBack cw.1 hM hp.1
  obtain ⟨⟨-, -, -, -, -, -, hcode, hini, hy, hlen, hl⟩, hstt⟩ := cw
  obtain ⟨hx, hb, hml, ho, -⟩ := S
  intro T hT X
  rcases vx_callS X hx (bytes := bytes) (maxL := maxL) (ret := ret) ho hl hstt hini hcode hy hK hg (hsize.trans hml.symm) (argsL := As) (rest := rest) (fun sig h => hn.trans (hlen sig h)) hstack hW (by rw [hb]; exact hdg)
    (fun vm₁ hW₁ => ⟨hf.1, hf.2, hp.2 (T.setVm vm₁) hT hW₁⟩) with ⟨v, vm₁, ⟨U', l2, c2, s2⟩, hW₁, X', ⟨g', mk, t, L, e1, e2, hq, h1, hL, h2, h3⟩, st⟩ | ⟨q, vm₁, ⟨U', l2, c2, s2⟩, hW₁, X', ⟨g', mk, t, L, E, ce, e1, e2, hq, hce, hcv, hcl, h1, hL, h2, h3⟩, st⟩
  · dsimp only [Pt.U, Pt.locs, Pt.cells, Pt.slots] at X' e1 e2 h1 h2 h3 st
    subst h1; subst h2; subst h3
    exact Or.inl ⟨v, (T.setVm vm₁).calling g' mk As.toArray, t, U', L, hT, X', hL, e1, e2, hq, st⟩
  · dsimp only [Pt.U, Pt.locs, Pt.cells, Pt.slots] at X' e1 e2 h1 h2 h3 st hcl
    subst h1; subst h2; subst h3
    exact Or.inr ⟨q, (T.setVm vm₁).calling g' mk As.toArray, t, U', L, E, ce, hT, X', hL, e1, e2, hq, hce, hcv, vx_cls hW₁ hcl, st⟩
end Runs
section Rows
variable {p : Program} {l : Launch} {e : Env} {R : Room} {s : State} {m : MethodId} {args : Array Value} {below : List Frame} {meth : Method} {c : Code} {H : Heap} {locs : List Loc} {cells slots : Nat} {Q : State → Prop}
variable {mc ms : Nat} {free : Addr → Prop} {A0 A1 : Nat → Prop} {H0 : Heap} {a : Array Value} {pc : Nat} {ls : Array Slot} {st0 rest : List Value}
theorem vx_keep {st₀ t T' : State} {L : List Loc} (h0 : st₀.heap = H) (e1 : T'.heap = t.heap) (hS : va_S A0 H0 H locs) (hA : ∀ q, q < H.size → A1 q → A0 q) (hf : ∀ q, free q → A0 q) (hL : ∀ q ∈ L, free q.base) (hF : va_F A1 st₀ t) :
    H.size ≤ T'.heap.size ∧ (∀ q : Nat, q < H.size → ¬ A1 q → T'.heap[q]? = H[q]?) ∧ va_S A0 H0 T'.heap (locs ++ L) := by
  obtain ⟨hz, hk⟩ := hF
  rw [h0] at hz hk
  exact ⟨by rw [e1]; exact hz, fun q h1 h2 => by rw [e1]; exact hk q h1 h2,
    ⟨Nat.le_trans hS.1 (by rw [e1]; exact hz), fun q h1 h2 => by rw [e1, hk q (Nat.lt_of_lt_of_le h1 hS.1) (fun z => h2 (hA q (Nat.lt_of_lt_of_le h1 hS.1) z))]; exact hS.2.1 q h1 h2, fun q hq => by
      rcases List.mem_append.mp hq with h | h
      · exact hS.2.2 q h
      · exact hf _ (hL q h)⟩⟩
theorem vx_calli {S SX : Type} {post : Int32 → S → Prop} {px : SX → Prop} {B : S → State → Prop} {BX : String → SX → State → Prop} {AX : Nat → Prop} (hr : vx_Run p l e R s m args below meth c H locs cells slots mc ms (F0 m pc ls st0) rest (va_Qi post B A1 a) (vx_X px BX AX) free) (hS : va_S A0 H0 H locs) (hA : ∀ q, q < H.size → A1 q → A0 q) (hf : ∀ q, free q → A0 q) (hAX : ∀ q, q < H.size → AX q → A0 q)
    (kx : ∀ (E : String) (ce : Cell) (q9 : Addr) (u : SX) (t : State) (H1 : Heap) (locs1 : List Loc), t.heap = H1 → s.vm.Alike t.vm → px u → BX E u t → H.size ≤ H1.size → (∀ q : Nat, q < H.size → ¬ AX q → H1[q]? = H[q]?) → va_S A0 H0 H1 locs1 → H1[q9]? = some ce → ce.vm = .none → s.vm.findClass E = some ce.cls → vx_W p l e R s m args below meth c H1 locs1 (cells + mc) (slots + ms) Q (F0 m pc ls rest) q9)
    (kk : ∀ (r : Int32) (u : S) (t : State) (H1 : Heap) (locs1 : List Loc), t.heap = H1 → s.vm.Alike t.vm → post r u → B u t → H.size ≤ H1.size → (∀ q : Nat, q < H.size → ¬ A1 q → H1[q]? = H[q]?) → va_S A0 H0 H1 locs1 → W p l e R s m args below meth c H1 locs1 (cells + mc) (slots + ms) Q (F0 m (pc + 3) ls (.int r :: rest))) : W p l e R s m args below meth c H locs cells slots Q (F0 m pc ls st0) := by
  intro T hT X
  rcases hr T hT X with ⟨v, st₀, t, T', L, h0, X', hL, e1, e2, ⟨⟨r, u, hv, hp, hb⟩, hF⟩, st⟩ | ⟨q, st₀, t, T', L, E, ce, h0, X', hL, e1, e2, ⟨u, hp, hb, hF⟩, hce, hcv, hcl, st⟩
  · cases hv
    obtain ⟨k1, k2, k3⟩ := vx_keep h0 e1 hS hA hf hL hF
    obtain ⟨t2, a1, b1⟩ := kk r u t T'.heap (locs ++ L) e1.symm (by rw [← e2]; exact X'.warmed.alike) hp hb k1 k2 k3 T' rfl X'
    exact ⟨t2, st t2 a1, b1⟩
  · obtain ⟨k1, k2, k3⟩ := vx_keep h0 e1 hS hAX hf hL hF
    obtain ⟨t2, a1, b1⟩ := kx E ce q u t T'.heap (locs ++ L) e1.symm (by rw [← e2]; exact X'.warmed.alike) hp hb k1 k2 k3 (by rw [e1]; exact hce) hcv hcl T' rfl X'
    exact ⟨t2, st.trans a1, b1⟩
theorem vx_calll {S SX : Type} {post : Int64 → S → Prop} {px : SX → Prop} {B : S → State → Prop} {BX : String → SX → State → Prop} {AX : Nat → Prop} (hr : vx_Run p l e R s m args below meth c H locs cells slots mc ms (F0 m pc ls st0) rest (va_Ql post B A1 a) (vx_X px BX AX) free) (hS : va_S A0 H0 H locs) (hA : ∀ q, q < H.size → A1 q → A0 q) (hf : ∀ q, free q → A0 q) (hAX : ∀ q, q < H.size → AX q → A0 q)
    (kx : ∀ (E : String) (ce : Cell) (q9 : Addr) (u : SX) (t : State) (H1 : Heap) (locs1 : List Loc), t.heap = H1 → s.vm.Alike t.vm → px u → BX E u t → H.size ≤ H1.size → (∀ q : Nat, q < H.size → ¬ AX q → H1[q]? = H[q]?) → va_S A0 H0 H1 locs1 → H1[q9]? = some ce → ce.vm = .none → s.vm.findClass E = some ce.cls → vx_W p l e R s m args below meth c H1 locs1 (cells + mc) (slots + ms) Q (F0 m pc ls rest) q9)
    (kk : ∀ (r : Int64) (u : S) (t : State) (H1 : Heap) (locs1 : List Loc), t.heap = H1 → s.vm.Alike t.vm → post r u → B u t → H.size ≤ H1.size → (∀ q : Nat, q < H.size → ¬ A1 q → H1[q]? = H[q]?) → va_S A0 H0 H1 locs1 → W p l e R s m args below meth c H1 locs1 (cells + mc) (slots + ms) Q (F0 m (pc + 3) ls (.long r :: rest))) : W p l e R s m args below meth c H locs cells slots Q (F0 m pc ls st0) := by
  intro T hT X
  rcases hr T hT X with ⟨v, st₀, t, T', L, h0, X', hL, e1, e2, ⟨⟨r, u, hv, hp, hb⟩, hF⟩, st⟩ | ⟨q, st₀, t, T', L, E, ce, h0, X', hL, e1, e2, ⟨u, hp, hb, hF⟩, hce, hcv, hcl, st⟩
  · cases hv
    obtain ⟨k1, k2, k3⟩ := vx_keep h0 e1 hS hA hf hL hF
    obtain ⟨t2, a1, b1⟩ := kk r u t T'.heap (locs ++ L) e1.symm (by rw [← e2]; exact X'.warmed.alike) hp hb k1 k2 k3 T' rfl X'
    exact ⟨t2, st t2 a1, b1⟩
  · obtain ⟨k1, k2, k3⟩ := vx_keep h0 e1 hS hAX hf hL hF
    obtain ⟨t2, a1, b1⟩ := kx E ce q u t T'.heap (locs ++ L) e1.symm (by rw [← e2]; exact X'.warmed.alike) hp hb k1 k2 k3 (by rw [e1]; exact hce) hcv hcl T' rfl X'
    exact ⟨t2, st.trans a1, b1⟩
theorem vx_callf {S SX : Type} {post : UInt32 → S → Prop} {px : SX → Prop} {B : S → State → Prop} {BX : String → SX → State → Prop} {AX : Nat → Prop} (hr : vx_Run p l e R s m args below meth c H locs cells slots mc ms (F0 m pc ls st0) rest (va_Qf post B A1 a) (vx_X px BX AX) free) (hS : va_S A0 H0 H locs) (hA : ∀ q, q < H.size → A1 q → A0 q) (hf : ∀ q, free q → A0 q) (hAX : ∀ q, q < H.size → AX q → A0 q)
    (kx : ∀ (E : String) (ce : Cell) (q9 : Addr) (u : SX) (t : State) (H1 : Heap) (locs1 : List Loc), t.heap = H1 → s.vm.Alike t.vm → px u → BX E u t → H.size ≤ H1.size → (∀ q : Nat, q < H.size → ¬ AX q → H1[q]? = H[q]?) → va_S A0 H0 H1 locs1 → H1[q9]? = some ce → ce.vm = .none → s.vm.findClass E = some ce.cls → vx_W p l e R s m args below meth c H1 locs1 (cells + mc) (slots + ms) Q (F0 m pc ls rest) q9)
    (kk : ∀ (r : UInt32) (u : S) (t : State) (H1 : Heap) (locs1 : List Loc), t.heap = H1 → s.vm.Alike t.vm → post r u → B u t → H.size ≤ H1.size → (∀ q : Nat, q < H.size → ¬ A1 q → H1[q]? = H[q]?) → va_S A0 H0 H1 locs1 → W p l e R s m args below meth c H1 locs1 (cells + mc) (slots + ms) Q (F0 m (pc + 3) ls (.float r :: rest))) : W p l e R s m args below meth c H locs cells slots Q (F0 m pc ls st0) := by
  intro T hT X
  rcases hr T hT X with ⟨v, st₀, t, T', L, h0, X', hL, e1, e2, ⟨⟨r, u, hv, hp, hb⟩, hF⟩, st⟩ | ⟨q, st₀, t, T', L, E, ce, h0, X', hL, e1, e2, ⟨u, hp, hb, hF⟩, hce, hcv, hcl, st⟩
  · cases hv
    obtain ⟨k1, k2, k3⟩ := vx_keep h0 e1 hS hA hf hL hF
    obtain ⟨t2, a1, b1⟩ := kk r u t T'.heap (locs ++ L) e1.symm (by rw [← e2]; exact X'.warmed.alike) hp hb k1 k2 k3 T' rfl X'
    exact ⟨t2, st t2 a1, b1⟩
  · obtain ⟨k1, k2, k3⟩ := vx_keep h0 e1 hS hAX hf hL hF
    obtain ⟨t2, a1, b1⟩ := kx E ce q u t T'.heap (locs ++ L) e1.symm (by rw [← e2]; exact X'.warmed.alike) hp hb k1 k2 k3 (by rw [e1]; exact hce) hcv hcl T' rfl X'
    exact ⟨t2, st.trans a1, b1⟩
theorem vx_calld {S SX : Type} {post : UInt64 → S → Prop} {px : SX → Prop} {B : S → State → Prop} {BX : String → SX → State → Prop} {AX : Nat → Prop} (hr : vx_Run p l e R s m args below meth c H locs cells slots mc ms (F0 m pc ls st0) rest (va_Qd post B A1 a) (vx_X px BX AX) free) (hS : va_S A0 H0 H locs) (hA : ∀ q, q < H.size → A1 q → A0 q) (hf : ∀ q, free q → A0 q) (hAX : ∀ q, q < H.size → AX q → A0 q)
    (kx : ∀ (E : String) (ce : Cell) (q9 : Addr) (u : SX) (t : State) (H1 : Heap) (locs1 : List Loc), t.heap = H1 → s.vm.Alike t.vm → px u → BX E u t → H.size ≤ H1.size → (∀ q : Nat, q < H.size → ¬ AX q → H1[q]? = H[q]?) → va_S A0 H0 H1 locs1 → H1[q9]? = some ce → ce.vm = .none → s.vm.findClass E = some ce.cls → vx_W p l e R s m args below meth c H1 locs1 (cells + mc) (slots + ms) Q (F0 m pc ls rest) q9)
    (kk : ∀ (r : UInt64) (u : S) (t : State) (H1 : Heap) (locs1 : List Loc), t.heap = H1 → s.vm.Alike t.vm → post r u → B u t → H.size ≤ H1.size → (∀ q : Nat, q < H.size → ¬ A1 q → H1[q]? = H[q]?) → va_S A0 H0 H1 locs1 → W p l e R s m args below meth c H1 locs1 (cells + mc) (slots + ms) Q (F0 m (pc + 3) ls (.double r :: rest))) : W p l e R s m args below meth c H locs cells slots Q (F0 m pc ls st0) := by
  intro T hT X
  rcases hr T hT X with ⟨v, st₀, t, T', L, h0, X', hL, e1, e2, ⟨⟨r, u, hv, hp, hb⟩, hF⟩, st⟩ | ⟨q, st₀, t, T', L, E, ce, h0, X', hL, e1, e2, ⟨u, hp, hb, hF⟩, hce, hcv, hcl, st⟩
  · cases hv
    obtain ⟨k1, k2, k3⟩ := vx_keep h0 e1 hS hA hf hL hF
    obtain ⟨t2, a1, b1⟩ := kk r u t T'.heap (locs ++ L) e1.symm (by rw [← e2]; exact X'.warmed.alike) hp hb k1 k2 k3 T' rfl X'
    exact ⟨t2, st t2 a1, b1⟩
  · obtain ⟨k1, k2, k3⟩ := vx_keep h0 e1 hS hAX hf hL hF
    obtain ⟨t2, a1, b1⟩ := kx E ce q u t T'.heap (locs ++ L) e1.symm (by rw [← e2]; exact X'.warmed.alike) hp hb k1 k2 k3 (by rw [e1]; exact hce) hcv hcl T' rfl X'
    exact ⟨t2, st.trans a1, b1⟩
theorem vx_callv {S SX : Type} {post : S → Prop} {px : SX → Prop} {B : S → State → Prop} {BX : String → SX → State → Prop} {AX : Nat → Prop} (hr : vx_Run p l e R s m args below meth c H locs cells slots mc ms (F0 m pc ls st0) rest (va_Qv post B A1 a) (vx_X px BX AX) free) (hS : va_S A0 H0 H locs) (hA : ∀ q, q < H.size → A1 q → A0 q) (hf : ∀ q, free q → A0 q) (hAX : ∀ q, q < H.size → AX q → A0 q)
    (kx : ∀ (E : String) (ce : Cell) (q9 : Addr) (u : SX) (t : State) (H1 : Heap) (locs1 : List Loc), t.heap = H1 → s.vm.Alike t.vm → px u → BX E u t → H.size ≤ H1.size → (∀ q : Nat, q < H.size → ¬ AX q → H1[q]? = H[q]?) → va_S A0 H0 H1 locs1 → H1[q9]? = some ce → ce.vm = .none → s.vm.findClass E = some ce.cls → vx_W p l e R s m args below meth c H1 locs1 (cells + mc) (slots + ms) Q (F0 m pc ls rest) q9)
    (kk : ∀ (u : S) (t : State) (H1 : Heap) (locs1 : List Loc), t.heap = H1 → s.vm.Alike t.vm → post u → B u t → H.size ≤ H1.size → (∀ q : Nat, q < H.size → ¬ A1 q → H1[q]? = H[q]?) → va_S A0 H0 H1 locs1 → W p l e R s m args below meth c H1 locs1 (cells + mc) (slots + ms) Q (F0 m (pc + 3) ls (rest))) : W p l e R s m args below meth c H locs cells slots Q (F0 m pc ls st0) := by
  intro T hT X
  rcases hr T hT X with ⟨v, st₀, t, T', L, h0, X', hL, e1, e2, ⟨⟨u, hv, hp, hb⟩, hF⟩, st⟩ | ⟨q, st₀, t, T', L, E, ce, h0, X', hL, e1, e2, ⟨u, hp, hb, hF⟩, hce, hcv, hcl, st⟩
  · cases hv
    obtain ⟨k1, k2, k3⟩ := vx_keep h0 e1 hS hA hf hL hF
    obtain ⟨t2, a1, b1⟩ := kk u t T'.heap (locs ++ L) e1.symm (by rw [← e2]; exact X'.warmed.alike) hp hb k1 k2 k3 T' rfl X'
    exact ⟨t2, st t2 a1, b1⟩
  · obtain ⟨k1, k2, k3⟩ := vx_keep h0 e1 hS hAX hf hL hF
    obtain ⟨t2, a1, b1⟩ := kx E ce q u t T'.heap (locs ++ L) e1.symm (by rw [← e2]; exact X'.warmed.alike) hp hb k1 k2 k3 (by rw [e1]; exact hce) hcv hcl T' rfl X'
    exact ⟨t2, st.trans a1, b1⟩
/-- caught by the row x of this method's table; the rows ahead don't take it -/
theorem vx_catch {own name : String} {E : String} {ce : Cell} {q : Addr} (hown : s.vm.findClass own = some m.cls) (pre : List ExceptionTableEntry) (x : ExceptionTableEntry) (suf : List ExceptionTableEntry) (hsplit : c.exceptionTable.toList = pre ++ x :: suf)
    (hpass : ∀ z ∈ pre, covers z pc = false ∨ (z.catchType ≠ 0 ∧ ∃ nm : String, (Cond.classLink own z.catchType nm).before args s = true ∧ va_Nc E nm s)) (hx : covers x pc = true) (h0 : x.catchType ≠ 0)
    (hlink : (Cond.classLink own x.catchType name).before args s = true) (hcast : (Cond.castable E name).before args s = true) (hcell : H[q]? = some ce) (hv : ce.vm = .none) (hcl : s.vm.findClass E = some ce.cls)
    (kk : W p l e R s m args below meth c H locs cells slots Q (F0 m x.handlerPc ls [.ref q])) : vx_W p l e R s m args below meth c H locs cells slots Q (F0 m pc ls rest) q := by
  intro T hT X
  have hpl : e.platform.magicAccessors = ({} : Platform).magicAccessors := by rw [X.admits.platform]
  obtain ⟨c3, c4, hc3, hc4, hasg⟩ := Cond.castable_spec hcast
  cases Option.some.inj (hc3.symm.trans hcl)
  obtain ⟨c5, hc5, hcl5⟩ := Cond.classLink_spec hown hlink e.platform hpl
  cases Option.some.inj (hc4.symm.trans hc5)
  obtain ⟨vm', X', st⟩ := X.thenCaughtThrough q (g := F0 m pc ls rest) rfl (Steps.refl _) (by rw [hT]; exact hcell) (by rw [hv]; rfl) (by obtain ⟨k9, h9, -⟩ := Vm.findClass_spec hcl; exact ⟨k9, h9⟩) pre x suf hsplit
    (fun z hz => by
      rcases hpass z hz with h | ⟨hz0, nm, hl1, hn1⟩
      · exact Or.inl h
      · obtain ⟨c6, hc6, hcl6⟩ := Cond.classLink_spec hown hl1 e.platform hpl
        obtain ⟨a8, b8, h1, h2, h3⟩ := hn1
        cases Option.some.inj (h1.symm.trans hcl)
        cases Option.some.inj (h2.symm.trans hc6)
        exact Or.inr ⟨hz0, _, hcl6, h3⟩) hx (Or.inr ⟨h0, c4, hcl5, hasg⟩)
  obtain ⟨t, a1, b1⟩ := kk (T.setVm vm') hT X'
  exact ⟨t, st.trans a1, b1⟩
end Rows
section Ends
variable {p : Program} {l : Launch} {e : Env} {R : Room} {s : State} {m : MethodId} {args : Array Value} {below : List Frame} {meth : Method} {c : Code} {H : Heap} {locs : List Loc} {cells slots : Nat} {Q : State → Prop}
variable {mc ms : Nat} {free : Addr → Prop} {A0 A1 : Nat → Prop} {H0 : Heap} {a : Array Value} {ls : Array Slot} {st0 rest : List Value}
variable {Qc : Array Value → State → Outcome → State → Prop} {XC : String → State → State → Prop}
/-- what a body that may throw owes at its end -/
def vx_MQ (below : List Frame) (Qc : Array Value → State → Outcome → State → Prop) (XC : String → State → State → Prop) (a : Array Value) (s : State) (mc ms : Nat) (free : Addr → Prop) : State → Prop := fun t =>
  ∃ o, t.status = .running ∧ Ended t below o ∧ vx_Q Qc XC mc ms free a s o t
theorem vx_ret {g : JFrame} {mc ms : Nat} (k : W p l e R s m args below meth c H locs cells slots (MQ below Qc args s mc ms free) g) : W p l e R s m args below meth c H locs cells slots (vx_MQ below Qc XC args s mc ms free) g := by
  intro T hT X
  obtain ⟨t, a1, o, b1, b2, b3, b4⟩ := k T hT X
  exact ⟨t, a1, o, b1, b2, Or.inl ⟨b3, b4⟩⟩
/-- not caught here: it goes on to the caller -/
theorem vx_widen {g : JFrame} {q : Addr} {k n : Nat} (h1 : cells ≤ k) (h2 : slots ≤ n) (kk : vx_W p l e R s m args below meth c H locs k n Q g q) : vx_W p l e R s m args below meth c H locs cells slots Q g q := fun T hT X => kk T hT (stand_widen X h1 h2)
theorem vx_out {pc : Nat} {E : String} {ce : Cell} {q : Addr} {mc ms : Nat} (hout : ∀ x ∈ c.exceptionTable.toList, covers x pc = false) (hlocks : meth.locks = false) (hcell : H[q]? = some ce) (hv : ce.vm = .none) (hcl : s.vm.findClass E = some ce.cls)
    (hx : ∀ t : State, t.heap = H → s.vm.Alike t.vm → XC E s t) (hf : ∀ z ∈ locs, free z.base) (hc : cells ≤ mc) (hs : slots ≤ ms) :
    vx_W p l e R s m args below meth c H locs cells slots (vx_MQ below Qc XC args s mc ms free) (F0 m pc ls rest) q := by
  intro T hT X
  obtain ⟨st1, hrun, hend, hW, hsm⟩ := X.leaveThrown q (g := F0 m pc ls rest) rfl rfl rfl hout hlocks
  have hcell9 : (T.setFrames (.throwing q :: below)).heap[q]? = some ce := by
    show T.heap[q]? = some ce
    rw [hT]; exact hcell
  exact ⟨_, st1, .threw q, hrun, hend, Or.inr ⟨q, rfl, E, ce, locs, hx _ hT hW.alike, hcell9, hv, hcl, hW, hsm.mono hc hs, hf⟩⟩
theorem vx_frame {U : State} {k n : Nat} (h : s.sameButNew ({ U with vm := s.vm } : State) locs k n) : s.heap.size ≤ U.heap.size ∧ ∀ q : Nat, q < s.heap.size → (∀ z ∈ locs, z.base ≠ q) → U.heap[q]? = s.heap[q]? := by
  obtain ⟨-, h2, -, -, -, h6⟩ := h
  refine ⟨h2, fun q hq hz => ?_⟩
  obtain ⟨c9, e1, e2, e3, e4⟩ := h6 q _ (Array.getElem?_eq_getElem hq)
  have hs : c9.slots = (s.heap[q]).slots := Array.ext_getElem? fun i => e4 i fun hm => hz _ hm rfl
  have h9 : c9 = s.heap[q] := by
    rw [hs] at e2
    exact e2
  have e5 : U.heap[q]? = some c9 := e1
  rw [e5, h9, Array.getElem?_eq_getElem hq]
/-- the words of a throw but the four that speak of the heap -/
def vx_no (w : Cond) : Bool := decide (w ≠ .isRef (.static Bundle.tN "UNASSIGNED_STACK" Bundle.steD)) && decide (w ≠ .isRef (.static Bundle.tN "SUPPRESSED_SENTINEL" Bundle.listD)) && decide (w ≠ .laysStatic Bundle.tN "UNASSIGNED_STACK" Bundle.steD) && decide (w ≠ .laysStatic Bundle.tN "SUPPRESSED_SENTINEL" Bundle.listD)
def vx_at0 (own : String) (ic : Nat) (X : String) (names : List String) : List Cond := (Bundle.ownAtoms0 own ic X names).filter vx_no
def vx_atS (own : String) (ic : Nat) (X : String) (names : List String) : List Cond := (Bundle.ownAtoms own ic X names).filter vx_no
/-- a word that the tables alone decide, or a good one -/
def vx_ot (w : Cond) : Bool := w.onTables || goodWord w
theorem vx_ot_at {args a' : Array Value} {s U : State} {w : Cond} (hW : s.WarmedH U.vm) (hvm : s.vm = U.vm) (hg : vx_ot w = true) (h : w.before args s = true) : w.before a' U = true := by
  simp only [vx_ot, Bool.or_eq_true] at hg
  rcases hg with hg | hg
  · exact va_tabs hg hvm h
  · exact word_at hW (good_of_word hg) h
/-- a list's words: the good ones out of the method's own list, the others by premises of their own -/
theorem vx_hat {args : Array Value} {s : State} {L B : List Cond} (h1 : ∀ w ∈ L.filter goodWord, w.before args s = true) (h2 : ∀ w ∈ L.filter (fun w => !goodWord w), w ∈ B) (h3 : ∀ w ∈ B, w.before args s = true) : ∀ w ∈ L, w.before args s = true := by
  intro w hw
  by_cases g : goodWord w = true
  · exact h1 w (List.mem_filter.mpr ⟨hw, g⟩)
  · refine h3 w (h2 w (List.mem_filter.mpr ⟨hw, ?_⟩))
    show (!goodWord w) = true
    cases hgw : goodWord w
    · rfl
    · exact absurd hgw g
theorem vx_c {args : Array Value} {s : State} {w : Cond} {B : List Cond} (h : w.before args s = true) (t : ∀ w ∈ B, w.before args s = true) : ∀ w' ∈ w :: B, w'.before args s = true := fun w' h' => (List.mem_cons.mp h').elim (fun e => by rw [e]; exact h) (t w')
theorem vx_n {args : Array Value} {s : State} : ∀ w ∈ ([] : List Cond), w.before args s = true := fun _ h => nomatch h
theorem vx_own {args : Array Value} {s : State} {L : List Cond} (h1 : ∀ w ∈ L.filter vx_no, w.before args s = true)
    (hU : (Cond.isRef (.static Bundle.tN "UNASSIGNED_STACK" Bundle.steD)).before args s = true) (hN : (Cond.isRef (.static Bundle.tN "SUPPRESSED_SENTINEL" Bundle.listD)).before args s = true)
    (lU : (Cond.laysStatic Bundle.tN "UNASSIGNED_STACK" Bundle.steD).before args s = true) (lN : (Cond.laysStatic Bundle.tN "SUPPRESSED_SENTINEL" Bundle.listD).before args s = true) : ∀ w ∈ L, w.before args s = true := by
  intro w hw
  by_cases e1 : w = .isRef (.static Bundle.tN "UNASSIGNED_STACK" Bundle.steD)
  · rw [e1]; exact hU
  · by_cases e2 : w = .isRef (.static Bundle.tN "SUPPRESSED_SENTINEL" Bundle.listD)
    · rw [e2]; exact hN
    · by_cases e3 : w = .laysStatic Bundle.tN "UNASSIGNED_STACK" Bundle.steD
      · rw [e3]; exact lU
      · by_cases e4 : w = .laysStatic Bundle.tN "SUPPRESSED_SENTINEL" Bundle.listD
        · rw [e4]; exact lN
        · exact h1 w (List.mem_filter.mpr ⟨hw, by unfold vx_no; rw [decide_eq_true e1, decide_eq_true e2, decide_eq_true e3, decide_eq_true e4]; rfl⟩)
/-- where a static field lies, its class's statics cell in H -/
def vx_L (C n d : String) (A : Nat → Prop) (U : State) (H : Heap) : Prop := ∃ (c : ClassId) (k : Class) (i : Nat) (f : Field) (a : Nat) (cell : Cell), U.vm.findClass C = some c ∧ U.fieldFound? C n d = some (c, k, i, f) ∧ f.isStatic = true ∧ k.statics = some a ∧ H[a]? = some cell ∧ cell.vm.isStatics = true ∧ cell.cls = c ∧ f.slot < cell.slots.size ∧ k.staticTypes[f.slot]? = some f.type ∧ ¬ A a
theorem vx_L.moved {C n d : String} {A : Nat → Prop} {u U : State} {H : Heap} (hvm : u.vm.Alike U.vm) (h : vx_L C n d A u H) : vx_L C n d A U H := by
  obtain ⟨c, k, i, f, a, cell, h1, h2, h3, h4, h5, h6, h7, h8, h9, h10⟩ := h
  obtain ⟨k', hi', he⟩ := State.fieldFound?_setVm hvm h2
  exact ⟨c, k', i, f, a, cell, by rw [hvm.findClass]; exact h1, hi', h3, by rw [he]; exact h4, h5, h6, h7, h8, by rw [he]; exact h9, h10⟩
theorem vx_L.kept {C n d : String} {A : Nat → Prop} {U : State} {H H1 : Heap} (h : vx_L C n d A U H) (hq : ∀ a : Nat, a < H.size → ¬ A a → H1[a]? = H[a]?) : vx_L C n d A U H1 := by
  obtain ⟨c, k, i, f, a, cell, h1, h2, h3, h4, h5, h6, h7, h8, h9, h10⟩ := h
  exact ⟨c, k, i, f, a, cell, h1, h2, h3, h4, by rw [hq a (Array.getElem?_eq_some_iff.mp h5).1 h10]; exact h5, h6, h7, h8, h9, h10⟩
theorem vx_L.narrow {C n d : String} {A B : Nat → Prop} {U : State} {H : Heap} (h : vx_L C n d A U H) (hAB : ∀ q, B q → A q) : vx_L C n d B U H := by
  obtain ⟨c, k, i, f, a, cell, h1, h2, h3, h4, h5, h6, h7, h8, h9, h10⟩ := h
  exact ⟨c, k, i, f, a, cell, h1, h2, h3, h4, h5, h6, h7, h8, h9, fun z => h10 (hAB _ z)⟩
theorem vx_L.word {C n d : String} {A : Nat → Prop} {s : State} {args : Array Value} (h : vx_L C n d A s s.heap) : (Cond.laysStatic C n d).before args s = true := by
  obtain ⟨c, k, i, f, a, cell, h1, h2, h3, h4, h5, h6, h7, h8, h9, -⟩ := h
  show (Cond.laysStatic C n d).holds args s none s [] = true
  exact Cond.laysStatic_of h1 h2 h3 h4 h5 h6 h7 h8 h9
/-- .. and what it holds: null or some reference -/
def vx_Zq (C n d : String) (A : Nat → Prop) (U : State) (H : Heap) : Prop := va_Zq C n d A U H ∧ vx_L C n d A U H
theorem vx_Zq.moved {C n d : String} {A : Nat → Prop} {u U : State} {H : Heap} (hvm : u.vm.Alike U.vm) (h : vx_Zq C n d A u H) : vx_Zq C n d A U H := ⟨va_Zq.moved hvm h.1, vx_L.moved hvm h.2⟩
theorem vx_Zq.kept {C n d : String} {A : Nat → Prop} {U : State} {H H1 : Heap} (h : vx_Zq C n d A U H) (hq : ∀ a : Nat, a < H.size → ¬ A a → H1[a]? = H[a]?) : vx_Zq C n d A U H1 := ⟨va_Zq.kept h.1 hq, vx_L.kept h.2 hq⟩
theorem vx_Zq.narrow {C n d : String} {A B : Nat → Prop} {U : State} {H : Heap} (h : vx_Zq C n d A U H) (hAB : ∀ q, B q → A q) : vx_Zq C n d B U H := ⟨va_Zq.narrow h.1 hAB, vx_L.narrow h.2 hAB⟩
theorem vx_Zqof {args : Array Value} {s : State} {C n d : String} {A : Nat → Prop} (hl : (Cond.laysStatic C n d).before args s = true) (hini : (Cond.initialized C).before args s = true) (h : (Cond.isRef (.static C n d)).before args s = true) (hA : ∀ a : Nat, a < s.heap.size → ¬ A a) : vx_Zq C n d A s s.heap := by
  refine ⟨va_Zqof hl hini h hA, ?_⟩
  obtain ⟨c, k, i, f, a, cell, h1, h2, h3, h4, h5, h6, h7, h8, h9⟩ := Cond.laysStatic_spec hl
  exact ⟨c, k, i, f, a, cell, h1, h2, h3, h4, h5, h6, h7, h8, h9, hA a (Array.getElem?_eq_some_iff.mp h5).1⟩
theorem vx_isRef {C n d : String} {v : Value} {A : Nat → Prop} {s : State} {args : Array Value} (h : va_Z C n d v A s s.heap) (hv : v.isRef = true) : (Cond.isRef (.static C n d)).before args s = true := by
  obtain ⟨cf, kf, fi, f, a, cell, h1, h2, h3, h4, h5, h6, h7, -⟩ := h
  have he : (Term.static C n d).eval args s none [] s = some v := by
    simp [Term.eval, State.fieldNamed?, h1, h2, h4, h5, h6, h7]
  simp only [Cond.before, Cond.holds, Cond.value, he]
  cases v <;> simp_all [Value.isRef]
theorem vx_isRefq {C n d : String} {A : Nat → Prop} {s : State} {args : Array Value} (h : va_Zq C n d A s s.heap) : (Cond.isRef (.static C n d)).before args s = true := by
  rcases h with h | ⟨t, h⟩
  · exact vx_isRef h rfl
  · exact vx_isRef h rfl
/-- the same frame, seen from here: as if the method were called anew in this heap -/
theorem vx_rebase {T : State} (X : Stand p l e R s m args below meth c T locs cells slots) {R' : Room} (hf : R'.frames ≤ R.frames) (hl : R'.locals ≤ R.locals) (hc : cells + R'.cells ≤ R.cells) (hs : slots + R'.slots ≤ R.slots) :
    Stand p l e R' ((T.setVm s.vm).setFrames (.invoking m args :: below)) m args below meth c T [] 0 0 := by
  have htop : (T.setVm s.vm).topJava?.isSome := X.here.top
  have hF : ((T.setVm s.vm).setFrames (.invoking m args :: below)).frames = .invoking m args :: below := State.frames_setFrames _ (State.cur_lt_of_top htop)
  obtain ⟨g₀, hg0⟩ := Option.isSome_iff_exists.mp htop
  obtain ⟨r, hr⟩ := State.topJava?_eq_some.mp hg0
  have hl9 : e.platform.stackLimits (T.setVm s.vm).me = e.platform.stackLimits s.me := X.limits
  have hb9 : (T.setVm s.vm).me.stackBytes = s.me.stackBytes := X.bytes
  refine ⟨X.admits, X.cas, X.clock, hF, ?_, X.hears, X.method, X.code, X.here, X.tail, X.warmed, ?_, ?_, ?_⟩
  · have h := X.room
    have hU : ((T.setVm s.vm).setFrames (.invoking m args :: below)).localsInUse = s.localsInUse := by
      rw [State.localsInUse_invoking hF (meth := meth) (c := c) X.method X.code, State.localsInUse_invoking X.frames X.method X.code]
    simp only [State.hasRoom, Bool.and_eq_true, decide_eq_true_eq] at h ⊢
    obtain ⟨⟨⟨⟨h1, h2, h3, h4, h5, h6⟩, h7⟩, h8⟩, h9⟩ := h
    rw [X.frames, List.length_cons] at h2 h3
    have q1 := X.heapSize
    have q2 := X.used
    simp only [hF, hU, List.length_cons, State.stackLimits_setFrames, State.stackBytes_setFrames, hl9, hb9]
    refine ⟨⟨⟨⟨by omega, by omega, by omega, by omega, by omega, h6⟩, ?_⟩, ?_⟩, X.book⟩
    · show T.heap.size + R'.cells ≤ e.platform.maxCells
      omega
    · show T.slotsUsed + R'.slots ≤ e.platform.maxSlots
      omega
  · rw [State.stackLimits_setFrames]; rfl
  · rw [State.stackBytes_setFrames]; rfl
  · refine ⟨?_, Nat.le_refl _, Nat.le_refl _, ?_, ?_, fun a c9 h9 => ⟨c9, h9, rfl, rfl, fun _ _ => rfl⟩⟩
    · obtain ⟨t, ht, -⟩ := State.frames_cons hr
      show T.setVm s.vm = { ((T.setVm s.vm).setFrames (.invoking m args :: below)).setFrames (T.setVm s.vm).frames with heap := T.heap, slotsUsed := T.slotsUsed }
      rw [State.setFrames_setFrames, State.setFrames_self ht]
      rfl
    · show T.slotsUsed = T.slotsUsed + ((T.heap.toList.drop T.heap.size).map (·.slots.size)).sum
      rw [List.drop_eq_nil_of_le (Nat.le_of_eq Array.length_toList)]
      rfl
    · show ((T.heap.toList.drop T.heap.size).map (·.slots.size)).sum ≤ 0
      rw [List.drop_eq_nil_of_le (Nat.le_of_eq Array.length_toList)]
      exact Nat.le_refl _
/-- 'throw new E()': new; dup; invokespecial; athrow -/
theorem vx_throw0 {cc : ByteArray} {pc : Nat} (hexec : p.tables.exec = Jvm.exec) (hb : c.code = cc) (hl : l.stackTraces = false) {own cls : String} {names : List String} {ik ic mc ms : Nat} {A : Nat → Prop}
    (hown : s.vm.findClass own = some m.cls) (hcls : Bundle.fit cls = true) (hnames : ∀ n ∈ names, Bundle.fit n = true)
    (hk : (Cond.classLink own ik cls).before args s = true) (hini : (Cond.initialized cls).before args s = true) (hat : ∀ w ∈ vx_at0 own ic cls names, w.before args s = true)
    (hgood : ∀ w ∈ Cond.classLink own ik cls :: Cond.initialized cls :: vx_at0 own ic cls names, vx_ot w = true)
    (hU : vx_Zq Bundle.tN "UNASSIGNED_STACK" Bundle.steD A s s.heap) (hN : vx_Zq Bundle.tN "SUPPRESSED_SENTINEL" Bundle.listD A s s.heap) (hS : va_S A s.heap H locs) (hsize : ls.size = c.maxLocals)
    (d0 : decode cc pc = .ok (.new ik, 3)) (d3 : decode cc (pc + 3) = .ok (.dup, 1)) (d4 : decode cc (pc + 4) = .ok (.invokespecial ic, 3)) (d7 : decode cc (pc + 7) = .ok (.athrow, 1))
    (hout : ∀ x ∈ c.exceptionTable.toList, covers x (pc + 7) = false)
    (hRframes : names.length + 3 < R.frames) (hRlocals : (rest.map fun v => v.category).sum + (13 * (names.length + 1) + 42) ≤ R.locals) (hRcells : cells + 1 ≤ R.cells) (hRslots : slots + 6 ≤ R.slots) (hlocks : meth.locks = false)
    (hx : ∀ t : State, s.vm.Alike t.vm → H.size ≤ t.heap.size → (∀ q : Nat, q < H.size → t.heap[q]? = H[q]?) → XC cls s t)
    (hf : ∀ z ∈ locs, free z.base) (hc : cells + 1 ≤ mc) (hs : slots + 6 ≤ ms) :
    W p l e R s m args below meth c H locs cells slots (vx_MQ below Qc XC args s mc ms free) (F0 m pc ls rest) := by
  intro T hT X
  have htr : e.platform.stackTraces = false := (show e.platform.stackTraces = l.stackTraces by rw [X.admits.platform]).trans hl
  have Y := vx_rebase X (R' := { frames := R.frames, locals := R.locals, cells := 1, slots := 6 }) (Nat.le_refl _) (Nat.le_refl _) hRcells hRslots
  obtain ⟨s', hA⟩ : ∃ z, z = (T.setVm s.vm).setFrames (.invoking m args :: below) := ⟨_, rfl⟩
  rw [← hA] at Y
  have hvm : s'.vm = s.vm := by rw [hA]; rfl
  have hhp : s'.heap = H := by rw [hA]; exact hT
  have hW0 : s.WarmedH s'.vm := by rw [hvm]; exact State.WarmedH.refl s
  have hat' : ∀ w ∈ vx_at0 own ic cls names, w.before args s' = true := fun w hw => vx_ot_at hW0 hvm.symm (hgood w (List.mem_cons_of_mem _ (List.mem_cons_of_mem _ hw))) (hat w hw)
  have hk' : (Cond.classLink own ik cls).before args s' = true := vx_ot_at hW0 hvm.symm (hgood _ List.mem_cons_self) hk
  have hini' : (Cond.initialized cls).before args s' = true := vx_ot_at hW0 hvm.symm (hgood _ (List.mem_cons_of_mem _ List.mem_cons_self)) hini
  have hU' : vx_Zq Bundle.tN "UNASSIGNED_STACK" Bundle.steD A s' s'.heap := by rw [hhp]; exact vx_Zq.moved hW0.alike (hU.kept hS.2.1)
  have hN' : vx_Zq Bundle.tN "SUPPRESSED_SENTINEL" Bundle.listD A s' s'.heap := by rw [hhp]; exact vx_Zq.moved hW0.alike (hN.kept hS.2.1)
  have h : ∀ w ∈ Bundle.ownAtoms0 own ic cls names, w.before args s' = true := vx_own hat' (vx_isRefq hU'.1) (vx_isRefq hN'.1) hU'.2.word hN'.2.word
  have hown' : s'.vm.findClass own = some m.cls := by rw [hvm]; exact hown
  have hins : (Cond.instantiable cls 6).before args s' = true := h _ (by simp [Bundle.ownAtoms0])
  obtain ⟨vm₁, cX, kX, hfX, hkX, -, -, X₁, st1⟩ := Y.newCold hexec (own := own) (C := cls) (index := ik) (n := 6) hown' hk' hins hini'
    (g := F0 m pc ls rest) rfl (by rw [hb]; exact d0) (Nat.le_refl _) (Nat.le_refl _)
  generalize hT1 : (T.setVm vm₁).pushCell { cls := cX, slots := kX.instanceTypes.map defaultValue, vm := .none } = T1 at X₁ st1
  have hcat : (Value.ref T.heap.size).category = 1 := rfl
  have hcellA : T1.heap[T.heap.size]? = some (freshCell cX kX) := by rw [← hT1]; exact State.heap_pushCell_size _ _
  have d3' : decode c.code (pc + 3) = .ok (.dup, 1) := by rw [hb]; exact d3
  obtain ⟨U, hsteps, hrun, hend, hW, hsame, ce, hce, hO⟩ := X₁.ctorThrow0 hexec htr (own := own) (cls := cls) (names := names) (ic := ic) hown' hcls hnames h (fun x hx => nomatch hx) hfX hkX hcellA (by rw [hhp, hT]; exact Nat.le_refl _)
    (g := { method := m, pc := pc + 4, locals := ls, stack := .ref T.heap.size :: .ref T.heap.size :: rest, locked := none }) rfl hsize rfl rfl (rest := rest) rfl
    (by rw [hb]; exact d4) (by rw [hb]; exact d7) hout hRframes (by simp only [List.map_cons, List.sum_cons, hcat]; omega) hlocks
  obtain ⟨f1, f2⟩ := vx_frame hsame
  rw [hhp] at f1 f2
  have hWs : s.WarmedH U.vm := State.WarmedH.trans hW0 hW
  have hcl : s.vm.findClass cls = some ce.cls := by
    have h9 := hO.cls
    rw [hvm] at h9
    exact h9
  have hall : s.sameButNew ({ U with vm := s.vm } : State) locs mc ms := by
    subst hA
    obtain ⟨e1, e2⟩ := hsame
    rw [State.setFrames_setFrames] at e1
    have h2 : (T.setVm s.vm).sameButNew ({ U with vm := s.vm } : State) [] (0 + 1) (0 + 6) := ⟨e1, e2⟩
    have h3 := X.same.trans h2
    rw [List.append_nil] at h3
    exact h3.mono hc hs
  refine ⟨U, ?_, .threw T.heap.size, hrun, hend, Or.inr ⟨T.heap.size, rfl, cls, ce, locs, hx U hWs.alike f1 (fun q hq => f2 q hq (fun z hz => nomatch hz)), hce, hO.vm, hcl, hWs, hall, hf⟩⟩
  refine st1 _ ?_
  show Steps p.tables e below (T1.setTop { method := m, pc := pc + 3, locals := ls, stack := .ref T.heap.size :: rest, locked := none }) _
  jvm_step X₁.here [X₁.here.top, hexec, d3', Value.category]
  exact hsteps
/-- 'throw new E("text")': new; dup; ldc; invokespecial; athrow -/
theorem vx_throwS {cc : ByteArray} {pc : Nat} (hexec : p.tables.exec = Jvm.exec) (hb : c.code = cc) (hl : l.stackTraces = false) {own cls text : String} {names : List String} {ik is ic mc ms sa : Nat} {A : Nat → Prop}
    (hown : s.vm.findClass own = some m.cls) (hcls : Bundle.fit cls = true) (hnames : ∀ n ∈ names, Bundle.fit n = true)
    (hk : (Cond.classLink own ik cls).before args s = true) (hini : (Cond.initialized cls).before args s = true) (hstr : vk_R own is text sa s) (hat : ∀ w ∈ vx_atS own ic cls names, w.before args s = true)
    (hgood : ∀ w ∈ Cond.classLink own ik cls :: Cond.initialized cls :: vx_atS own ic cls names, vx_ot w = true)
    (hU : vx_Zq Bundle.tN "UNASSIGNED_STACK" Bundle.steD A s s.heap) (hN : vx_Zq Bundle.tN "SUPPRESSED_SENTINEL" Bundle.listD A s s.heap) (hS : va_S A s.heap H locs) (hsize : ls.size = c.maxLocals)
    (d0 : decode cc pc = .ok (.new ik, 3)) (d3 : decode cc (pc + 3) = .ok (.dup, 1)) (d4 : decode cc (pc + 4) = .ok (.ldc is, 2)) (d6 : decode cc (pc + 6) = .ok (.invokespecial ic, 3)) (d9 : decode cc (pc + 9) = .ok (.athrow, 1))
    (hout : ∀ x ∈ c.exceptionTable.toList, covers x (pc + 9) = false)
    (hRframes : names.length + 3 < R.frames) (hRlocals : (rest.map fun v => v.category).sum + (13 * (names.length + 1) + 43) ≤ R.locals) (hRcells : cells + 1 ≤ R.cells) (hRslots : slots + 6 ≤ R.slots) (hlocks : meth.locks = false)
    (hx : ∀ t : State, s.vm.Alike t.vm → H.size ≤ t.heap.size → (∀ q : Nat, q < H.size → t.heap[q]? = H[q]?) → XC cls s t)
    (hf : ∀ z ∈ locs, free z.base) (hc : cells + 1 ≤ mc) (hs : slots + 6 ≤ ms) :
    W p l e R s m args below meth c H locs cells slots (vx_MQ below Qc XC args s mc ms free) (F0 m pc ls rest) := by
  intro T hT X
  have htr : e.platform.stackTraces = false := (show e.platform.stackTraces = l.stackTraces by rw [X.admits.platform]).trans hl
  have Y := vx_rebase X (R' := { frames := R.frames, locals := R.locals, cells := 1, slots := 6 }) (Nat.le_refl _) (Nat.le_refl _) hRcells hRslots
  obtain ⟨s', hA⟩ : ∃ z, z = (T.setVm s.vm).setFrames (.invoking m args :: below) := ⟨_, rfl⟩
  rw [← hA] at Y
  have hvm : s'.vm = s.vm := by rw [hA]; rfl
  have hhp : s'.heap = H := by rw [hA]; exact hT
  have hW0 : s.WarmedH s'.vm := by rw [hvm]; exact State.WarmedH.refl s
  have hat' : ∀ w ∈ vx_atS own ic cls names, w.before args s' = true := fun w hw => vx_ot_at hW0 hvm.symm (hgood w (List.mem_cons_of_mem _ (List.mem_cons_of_mem _ hw))) (hat w hw)
  have hk' : (Cond.classLink own ik cls).before args s' = true := vx_ot_at hW0 hvm.symm (hgood _ List.mem_cons_self) hk
  have hini' : (Cond.initialized cls).before args s' = true := vx_ot_at hW0 hvm.symm (hgood _ (List.mem_cons_of_mem _ List.mem_cons_self)) hini
  have hU' : vx_Zq Bundle.tN "UNASSIGNED_STACK" Bundle.steD A s' s'.heap := by rw [hhp]; exact vx_Zq.moved hW0.alike (hU.kept hS.2.1)
  have hN' : vx_Zq Bundle.tN "SUPPRESSED_SENTINEL" Bundle.listD A s' s'.heap := by rw [hhp]; exact vx_Zq.moved hW0.alike (hN.kept hS.2.1)
  have h : ∀ w ∈ Bundle.ownAtoms own ic cls names, w.before args s' = true := vx_own hat' (vx_isRefq hU'.1) (vx_isRefq hN'.1) hU'.2.word hN'.2.word
  have hown' : s'.vm.findClass own = some m.cls := by rw [hvm]; exact hown
  have hins : (Cond.instantiable cls 6).before args s' = true := h _ (by simp [Bundle.ownAtoms])
  obtain ⟨vm₁, cX, kX, hfX, hkX, -, -, X₁, st1⟩ := Y.newCold hexec (own := own) (C := cls) (index := ik) (n := 6) hown' hk' hins hini'
    (g := F0 m pc ls rest) rfl (by rw [hb]; exact d0) (Nat.le_refl _) (Nat.le_refl _)
  generalize hT1 : (T.setVm vm₁).pushCell { cls := cX, slots := kX.instanceTypes.map defaultValue, vm := .none } = T1 at X₁ st1
  have hcat : (Value.ref T.heap.size).category = 1 := rfl
  have hcellA : T1.heap[T.heap.size]? = some (freshCell cX kX) := by rw [← hT1]; exact State.heap_pushCell_size _ _
  have d3' : decode c.code (pc + 3) = .ok (.dup, 1) := by rw [hb]; exact d3
  have d4' : decode c.code (pc + 4) = .ok (.ldc is, 2) := by rw [hb]; exact d4
  have hstr' : vk_R own is text sa s' := vk_R.warm hW0 hstr
  obtain ⟨U, hsteps, hrun, hend, hW, hsame, ce, hce, hO⟩ := X₁.ctorThrowS hexec htr (own := own) (cls := cls) (names := names) (ic := ic) hown' hcls hnames h (fun x hx => nomatch hx) hfX hkX hcellA (by rw [hhp, hT]; exact Nat.le_refl _) (msg := .ref sa) rfl
    (g := { method := m, pc := pc + 6, locals := ls, stack := .ref sa :: .ref T.heap.size :: .ref T.heap.size :: rest, locked := none }) rfl hsize rfl rfl (rest := rest) rfl
    (by rw [hb]; exact d6) (by rw [hb]; exact d9) hout hRframes (by simp only [List.map_cons, List.sum_cons, hcat]; omega) hlocks
  obtain ⟨f1, f2⟩ := vx_frame hsame
  rw [hhp] at f1 f2
  have hWs : s.WarmedH U.vm := State.WarmedH.trans hW0 hW
  have hcl : s.vm.findClass cls = some ce.cls := by
    have h9 := hO.cls
    rw [hvm] at h9
    exact h9
  have hall : s.sameButNew ({ U with vm := s.vm } : State) locs mc ms := by
    subst hA
    obtain ⟨e1, e2⟩ := hsame
    rw [State.setFrames_setFrames] at e1
    have h2 : (T.setVm s.vm).sameButNew ({ U with vm := s.vm } : State) [] (0 + 1) (0 + 6) := ⟨e1, e2⟩
    have h3 := X.same.trans h2
    rw [List.append_nil] at h3
    exact h3.mono hc hs
  refine ⟨U, ?_, .threw T.heap.size, hrun, hend, Or.inr ⟨T.heap.size, rfl, cls, ce, locs, hx U hWs.alike f1 (fun q hq => f2 q hq (fun z hz => nomatch hz)), hce, hO.vm, hcl, hWs, hall, hf⟩⟩
  refine st1 _ ?_
  show Steps p.tables e below (T1.setTop { method := m, pc := pc + 3, locals := ls, stack := .ref T.heap.size :: rest, locked := none }) _
  jvm_step X₁.here [X₁.here.top, hexec, d3', Value.category]
  exact X₁.ldcString hexec (own := own) (text := text) (index := is) (a := sa) hown' hstr'.1 hstr'.2
    (g := { method := m, pc := pc + 4, locals := ls, stack := .ref T.heap.size :: .ref T.heap.size :: rest, locked := none }) rfl d4' _ hsteps
/-- 'throw new E("text")', the text by a wide index -/
theorem vx_throwSW {cc : ByteArray} {pc : Nat} (hexec : p.tables.exec = Jvm.exec) (hb : c.code = cc) (hl : l.stackTraces = false) {own cls text : String} {names : List String} {ik is ic mc ms sa : Nat} {A : Nat → Prop}
    (hown : s.vm.findClass own = some m.cls) (hcls : Bundle.fit cls = true) (hnames : ∀ n ∈ names, Bundle.fit n = true)
    (hk : (Cond.classLink own ik cls).before args s = true) (hini : (Cond.initialized cls).before args s = true) (hstr : vk_R own is text sa s) (hat : ∀ w ∈ vx_atS own ic cls names, w.before args s = true)
    (hgood : ∀ w ∈ Cond.classLink own ik cls :: Cond.initialized cls :: vx_atS own ic cls names, vx_ot w = true)
    (hU : vx_Zq Bundle.tN "UNASSIGNED_STACK" Bundle.steD A s s.heap) (hN : vx_Zq Bundle.tN "SUPPRESSED_SENTINEL" Bundle.listD A s s.heap) (hS : va_S A s.heap H locs) (hsize : ls.size = c.maxLocals)
    (d0 : decode cc pc = .ok (.new ik, 3)) (d3 : decode cc (pc + 3) = .ok (.dup, 1)) (d4 : decode cc (pc + 4) = .ok (.ldc_w is, 3)) (d7 : decode cc (pc + 7) = .ok (.invokespecial ic, 3)) (d10 : decode cc (pc + 10) = .ok (.athrow, 1))
    (hout : ∀ x ∈ c.exceptionTable.toList, covers x (pc + 10) = false)
    (hRframes : names.length + 3 < R.frames) (hRlocals : (rest.map fun v => v.category).sum + (13 * (names.length + 1) + 43) ≤ R.locals) (hRcells : cells + 1 ≤ R.cells) (hRslots : slots + 6 ≤ R.slots) (hlocks : meth.locks = false)
    (hx : ∀ t : State, s.vm.Alike t.vm → H.size ≤ t.heap.size → (∀ q : Nat, q < H.size → t.heap[q]? = H[q]?) → XC cls s t)
    (hf : ∀ z ∈ locs, free z.base) (hc : cells + 1 ≤ mc) (hs : slots + 6 ≤ ms) :
    W p l e R s m args below meth c H locs cells slots (vx_MQ below Qc XC args s mc ms free) (F0 m pc ls rest) := by
  intro T hT X
  have htr : e.platform.stackTraces = false := (show e.platform.stackTraces = l.stackTraces by rw [X.admits.platform]).trans hl
  have Y := vx_rebase X (R' := { frames := R.frames, locals := R.locals, cells := 1, slots := 6 }) (Nat.le_refl _) (Nat.le_refl _) hRcells hRslots
  obtain ⟨s', hA⟩ : ∃ z, z = (T.setVm s.vm).setFrames (.invoking m args :: below) := ⟨_, rfl⟩
  rw [← hA] at Y
  have hvm : s'.vm = s.vm := by rw [hA]; rfl
  have hhp : s'.heap = H := by rw [hA]; exact hT
  have hW0 : s.WarmedH s'.vm := by rw [hvm]; exact State.WarmedH.refl s
  have hat' : ∀ w ∈ vx_atS own ic cls names, w.before args s' = true := fun w hw => vx_ot_at hW0 hvm.symm (hgood w (List.mem_cons_of_mem _ (List.mem_cons_of_mem _ hw))) (hat w hw)
  have hk' : (Cond.classLink own ik cls).before args s' = true := vx_ot_at hW0 hvm.symm (hgood _ List.mem_cons_self) hk
  have hini' : (Cond.initialized cls).before args s' = true := vx_ot_at hW0 hvm.symm (hgood _ (List.mem_cons_of_mem _ List.mem_cons_self)) hini
  have hU' : vx_Zq Bundle.tN "UNASSIGNED_STACK" Bundle.steD A s' s'.heap := by rw [hhp]; exact vx_Zq.moved hW0.alike (hU.kept hS.2.1)
  have hN' : vx_Zq Bundle.tN "SUPPRESSED_SENTINEL" Bundle.listD A s' s'.heap := by rw [hhp]; exact vx_Zq.moved hW0.alike (hN.kept hS.2.1)
  have h : ∀ w ∈ Bundle.ownAtoms own ic cls names, w.before args s' = true := vx_own hat' (vx_isRefq hU'.1) (vx_isRefq hN'.1) hU'.2.word hN'.2.word
  have hown' : s'.vm.findClass own = some m.cls := by rw [hvm]; exact hown
  have hins : (Cond.instantiable cls 6).before args s' = true := h _ (by simp [Bundle.ownAtoms])
  obtain ⟨vm₁, cX, kX, hfX, hkX, -, -, X₁, st1⟩ := Y.newCold hexec (own := own) (C := cls) (index := ik) (n := 6) hown' hk' hins hini'
    (g := F0 m pc ls rest) rfl (by rw [hb]; exact d0) (Nat.le_refl _) (Nat.le_refl _)
  generalize hT1 : (T.setVm vm₁).pushCell { cls := cX, slots := kX.instanceTypes.map defaultValue, vm := .none } = T1 at X₁ st1
  have hcat : (Value.ref T.heap.size).category = 1 := rfl
  have hcellA : T1.heap[T.heap.size]? = some (freshCell cX kX) := by rw [← hT1]; exact State.heap_pushCell_size _ _
  have d3' : decode c.code (pc + 3) = .ok (.dup, 1) := by rw [hb]; exact d3
  have d4' : decode c.code (pc + 4) = .ok (.ldc_w is, 3) := by rw [hb]; exact d4
  have hstr' : vk_R own is text sa s' := vk_R.warm hW0 hstr
  obtain ⟨U, hsteps, hrun, hend, hW, hsame, ce, hce, hO⟩ := X₁.ctorThrowS hexec htr (own := own) (cls := cls) (names := names) (ic := ic) hown' hcls hnames h (fun x hx => nomatch hx) hfX hkX hcellA (by rw [hhp, hT]; exact Nat.le_refl _) (msg := .ref sa) rfl
    (g := { method := m, pc := pc + 7, locals := ls, stack := .ref sa :: .ref T.heap.size :: .ref T.heap.size :: rest, locked := none }) rfl hsize rfl rfl (rest := rest) rfl
    (by rw [hb]; exact d7) (by rw [hb]; exact d10) hout hRframes (by simp only [List.map_cons, List.sum_cons, hcat]; omega) hlocks
  obtain ⟨f1, f2⟩ := vx_frame hsame
  rw [hhp] at f1 f2
  have hWs : s.WarmedH U.vm := State.WarmedH.trans hW0 hW
  have hcl : s.vm.findClass cls = some ce.cls := by
    have h9 := hO.cls
    rw [hvm] at h9
    exact h9
  have hall : s.sameButNew ({ U with vm := s.vm } : State) locs mc ms := by
    subst hA
    obtain ⟨e1, e2⟩ := hsame
    rw [State.setFrames_setFrames] at e1
    have h2 : (T.setVm s.vm).sameButNew ({ U with vm := s.vm } : State) [] (0 + 1) (0 + 6) := ⟨e1, e2⟩
    have h3 := X.same.trans h2
    rw [List.append_nil] at h3
    exact h3.mono hc hs
  refine ⟨U, ?_, .threw T.heap.size, hrun, hend, Or.inr ⟨T.heap.size, rfl, cls, ce, locs, hx U hWs.alike f1 (fun q hq => f2 q hq (fun z hz => nomatch hz)), hce, hO.vm, hcl, hWs, hall, hf⟩⟩
  refine st1 _ ?_
  show Steps p.tables e below (T1.setTop { method := m, pc := pc + 3, locals := ls, stack := .ref T.heap.size :: rest, locked := none }) _
  jvm_step X₁.here [X₁.here.top, hexec, d3', Value.category]
  exact X₁.ldcStringW hexec (own := own) (text := text) (index := is) (a := sa) hown' hstr'.1 hstr'.2
    (g := { method := m, pc := pc + 4, locals := ls, stack := .ref T.heap.size :: .ref T.heap.size :: rest, locked := none }) rfl d4' _ hsteps
end Ends
section Bodies
variable {l : Launch}
theorem vx_ofW {y : MethodName} {ws ws' : List Cond} {rm : Room} {Pc : Array Value → State → Prop} {Qc : Array Value → State → Outcome → State → Prop} {XC : String → State → State → Prop} {mc ms : Nat} {free : Addr → Prop} {cc : ByteArray} {maxL : Nat} {ret : Option FieldType}
    (hy : plainName y.cls = true) (hw : ws = Cond.code y cc maxL ret :: ws')
    (body : ∀ p e s m args below meth c s₁, BodyLoose p l y (headSpec ws rm) cc maxL ret e s m args below meth c s₁ → c.maxLocals = maxL → (∀ x ∈ c.exceptionTable.toList, False) → Pc args s →
      W p l e (headSpec ws rm).room s m args below meth c s.heap [] 0 0 (vx_MQ below Qc XC args s mc ms free) (entryFrame m args maxL)) : vx_Met l y ws rm Pc Qc XC mc ms free := by
  refine MetFree.of_bodyS (code := cc) (maxLocals := maxL) (ret := ret) hy ?_ ?_
  · intro args s m h hn
    obtain ⟨meth, c, h1, h2, h3, h4, h5, h6, -, -⟩ := Cond.code_spec hn (atoms_spec (ws := ws) h _ (by rw [hw]; exact List.mem_cons_self))
    exact ⟨meth, c, h1, h2, h3, h4, h5, h6⟩
  · intro p e s m args below meth c s₁ B hml hP _
    have hh0 : s₁.heap = s.heap := by rw [B.state]; rfl
    have ht : ∀ x ∈ c.exceptionTable.toList, False := by
      obtain ⟨meth9, c9, h1, h2, -, -, -, -, h7, -⟩ := Cond.code_spec B.named (atoms_spec (ws := ws) B.pre _ (by rw [hw]; exact List.mem_cons_self))
      cases Option.some.inj (h1.symm.trans B.method)
      cases Option.some.inj (h2.symm.trans (Stand.of_body B).code)
      intro x hx
      rw [Array.isEmpty_iff.mp h7] at hx
      cases hx
    obtain ⟨t, a1, o, b1, b2, b3⟩ := body p e s m args below meth c s₁ B hml ht hP s₁ hh0 (Stand.of_body B)
    exact ⟨t, o, a1, b1, b2, b3⟩
/-- the table of a body with handlers -/
theorem vx_table {p : Program} {x y : MethodName} {S : Spec} {cc bytes : ByteArray} {maxL maxL' : Nat} {ret ret' : Option FieldType} {e : Env} {s s₁ : State} {m : MethodId} {args : Array Value} {below : List Frame} {meth : Method} {c : Code} {hh : List (Nat × Nat × Nat × Nat)}
    (B : BodyLoose p l y S cc maxL ret e s m args below meth c s₁) (h : (Cond.codeWith y bytes maxL' ret' hh).before args s = true) : c.exceptionTable.toList = tableOf hh := by
  obtain ⟨m9, meth9, c9, hn9, h1, h2, -, -, h6, -⟩ := Cond.codeWith_spec h
  cases Option.some.inj (hn9.symm.trans B.named)
  cases Option.some.inj (h1.symm.trans B.method)
  cases Option.some.inj (h2.symm.trans (Stand.of_body B).code)
  rw [← h6, table_eq]
end Bodies
end VXA
/-! ===== END ===== -/
/-! ===== BEGIN a static call of a method with an exception table ===== -/
section VXS
variable {p : Program} {l : Launch} {e : Env} {R : Room} {s : State} {m : MethodId} {args : Array Value} {below : List Frame} {meth : Method} {c : Code} {T : State} {H : Heap} {locs : List Loc} {cells slots : Nat}
abbrev vx_CSW (R : Room) (s : State) (args : Array Value) (own : String) (index : Nat) (y : MethodName) (bytes : ByteArray) (maxL : Nat) (ret : Option FieldType) (hh : List (Nat × Nat × Nat × Nat)) (ws : List Cond) (rm : Room) (mc ms n : Nat) : Prop :=
  (rm.cells = mc ∧ rm.slots = ms ∧ rm.frames + 1 ≤ R.frames ∧ 8 + (maxL + 11) + rm.locals ≤ R.locals ∧ (∀ w ∈ ws, ∀ (a' : Array Value) (U : State), s.WarmedH U.vm → w.before a' U = true) ∧ Cond.codeWith y bytes maxL ret hh ∈ ws) ∧
  (Cond.codeWith y bytes maxL ret hh).before args s = true ∧ (Cond.initialized y.cls).before args s = true ∧ (y.cls ≠ "java/lang/invoke/MethodHandle" ∧ y.cls ≠ "java/lang/invoke/VarHandle") ∧
  (∀ sig, parseMethodDescriptor y.desc = some sig → n = sig.parameters.length) ∧ (Cond.methodLink own index y).before args s = true ∧ (Cond.static y).before args s = true
theorem vx_cwSW {own : String} {index maxL mc ms : Nat} {y : MethodName} {bytes : ByteArray} {ret : Option FieldType} {hh : List (Nat × Nat × Nat × Nat)} {Ts ws ws' : List Cond} {rm : Room} (n : Nat) (ht : ∀ w ∈ Ts, w.before args s = true) (hT : GoodIn Ts (va_wsS own index y ws)) (hw : ws = Cond.codeWith y bytes maxL ret hh :: ws') (hrc : rm.cells = mc) (hrs : rm.slots = ms)
    (hd : y.cls ≠ "java/lang/invoke/MethodHandle" ∧ y.cls ≠ "java/lang/invoke/VarHandle" ∧ (parseMethodDescriptor y.desc).map (fun d => d.parameters.length) = some n) (hR : rm.frames + 1 ≤ R.frames ∧ 8 + (maxL + 11) + rm.locals ≤ R.locals) :
    vx_CSW R s args own index y bytes maxL ret hh ws rm mc ms n := by
  have ok : ∀ w ∈ va_wsS own index y ws, w.before args s = true := fun w h => ht w (hT w h).1
  have hG : GoodIn Ts ws := fun w h => hT w (by unfold va_wsS; exact List.mem_append_right _ h)
  have hc : Cond.codeWith y bytes maxL ret hh ∈ ws := by rw [hw]; exact List.mem_cons_self
  refine ⟨⟨hrc, hrs, hR.1, hR.2, pay_in ht hG, hc⟩, ht _ (hG _ hc).1, ok _ (by simp [va_wsS]), ⟨hd.1, hd.2.1⟩, fun sig h => ?_, ok _ (by simp [va_wsS]), ok _ (by simp [va_wsS])⟩
  have h2 := hd.2.2
  rw [h] at h2
  exact (Option.some.inj h2).symm
theorem vx_callSW (X : Stand p l e R s m args below meth c T locs cells slots) (hexec : p.tables.exec = Jvm.exec) {own : String} {index : Nat} {y : MethodName} {bytes : ByteArray} {maxL : Nat} {ret : Option FieldType} {hh : List (Nat × Nat × Nat × Nat)}
    (hown : s.vm.findClass own = some m.cls) (hlink : (Cond.methodLink own index y).before args s = true) (hstat : (Cond.static y).before args s = true) (hinit : (Cond.initialized y.cls).before args s = true)
    (hcode : (Cond.codeWith y bytes maxL ret hh).before args s = true) (hy : y.cls ≠ "java/lang/invoke/MethodHandle" ∧ y.cls ≠ "java/lang/invoke/VarHandle")
    {W9 : Nat} {Pre : Pt → Array Value → Prop} {Post : Pt → Array Value → Option Value → Pt → Prop} (hK : Back l R p e below s args y 3 W9 Pre Post)
    {g : JFrame} (hg : g.method = m) (hsize : g.locals.size = c.maxLocals) {argsL rest : List Value} (hlen : ∀ sig, parseMethodDescriptor y.desc = some sig → argsL.length = sig.parameters.length)
    (hstack : g.stack = argsL.reverse ++ rest) (hW : 2 * g.monitorRoom + (rest.map fun v => v.category).sum ≤ W9) (hdg : decode c.code g.pc = .ok (.invokestatic index, 3))
    (hpre : ∀ vm₁, s.WarmedH vm₁ → Pre ⟨T.setVm vm₁, locs, cells, slots⟩ argsL.toArray) :
    ∃ (v : Option Value) (vm₁ : Vm) (B : Pt), s.WarmedH vm₁ ∧ Stand p l e R s m args below meth c B.U B.locs B.cells B.slots ∧ Post ⟨T.setVm vm₁, locs, cells, slots⟩ argsL.toArray v B ∧
      ∀ target, Steps p.tables e below (B.U.setTop { g with pc := g.pc + 3, stack := v.toList ++ rest }) target → Steps p.tables e below (T.setTop g) target := by
  obtain ⟨mk, methM, cM, hnamed, hmethM, -, -, -, -, -, -, hsigM⟩ := Cond.codeWith_spec hcode
  have hstatic : methM.isStatic = true := Cond.static_spec hnamed hmethM hstat
  obtain ⟨kP, hkP, -⟩ := className_of_methodNamed hnamed
  have hinitP : kP.init = .initialized := Cond.initialized_spec (findClass_of_methodNamed hnamed) hkP hinit
  obtain ⟨vm₁, X₁, hstep₁⟩ := X.invokestatic hexec hown hlink hnamed hmethM hstatic hkP hinitP hy (g := g) hg (argsL := argsL) (rest := rest) (hlen _ hsigM) hstack hdg
  obtain ⟨v, B, X', hpost, hsteps⟩ := hK m meth c ⟨T.setVm vm₁, locs, cells, slots⟩ { g with stack := rest } (.invokestatic index) mk argsL.toArray X₁ hg hsize hdg hW (X₁.named hnamed) (hpre vm₁ X₁.warmed)
  exact ⟨v, vm₁, B, X₁.warmed, X', hpost, fun target h => hstep₁ _ fun acts => by rw [doInvoke_state]; exact hsteps.trans h⟩
theorem vx_runSW {y : MethodName} {bytes cc : ByteArray} {maxL nL mc ms n index : Nat} {ret : Option FieldType} {hh : List (Nat × Nat × Nat × Nat)} {ws : List Cond} {rm : Room} {Pc : Array Value → State → Prop} {Qc : Array Value → State → Outcome → State → Prop} {free : Addr → Prop} {Ts : List Cond} {own : String} {As rest : List Value} {g : JFrame}
    (S : CallFix p m c cc nL s args Ts own) (hM : Met l y ws rm Pc Qc mc ms free) (cw : vx_CSW R s args own index y bytes maxL ret hh ws rm mc ms n) (hp : PreS s H Pc As)
    (hg : g.method = m) (hn : As.length = n) (hsize : g.locals.size = nL) (hstack : g.stack = As.reverse ++ rest) (hW : 2 * g.monitorRoom + (rest.map fun v => v.category).sum ≤ 8) (hdg : decode cc g.pc = .ok (.invokestatic index, 3)) (hf : cells + mc ≤ R.cells ∧ slots + ms ≤ R.slots) :
    va_Run p l e R s m args below meth c H locs cells slots mc ms g rest (Qc As.toArray) (free) := by
  obtain ⟨⟨hrc, hrs, hfr, hlo, hws, hcw⟩, hcode, hini, hy, hlen, hl, hstt⟩ := cw
  have hK : Back l R p e below s args y 3 8 (PreOf R mc ms Pc) (PostOf Qc mc ms free) := va_backW (hh := hh) (bytes := bytes) (maxL := maxL) (ret := ret) hM hp.1 hrc hrs hfr hlo hws hcw (fun a' U hW => word_at hW (Or.inl (by first | rfl | simp [Cond.onTables, Cond.keeps, Cond.steady])) hini)
  obtain ⟨hx, hb, hml, ho, -⟩ := S
  intro T hT X
  obtain ⟨v, vm₁, ⟨U', l2, c2, s2⟩, hW₁, X', ⟨g', mk, t, L, e1, e2, hq, h1, hL, h2, h3⟩, st⟩ := vx_callSW X hx (hh := hh) (bytes := bytes) (maxL := maxL) (ret := ret) ho hl hstt hini hcode hy hK hg (hsize.trans hml.symm) (argsL := As) (rest := rest) (fun sig h => hn.trans (hlen sig h)) hstack hW (by rw [hb]; exact hdg)
    (fun vm₁ hW₁ => ⟨hf.1, hf.2, hp.2 (T.setVm vm₁) hT hW₁⟩)
  dsimp only [Pt.U, Pt.locs, Pt.cells, Pt.slots] at X' e1 e2 h1 h2 h3 st
  subst h1; subst h2; subst h3
  exact ⟨v, (T.setVm vm₁).calling g' mk As.toArray, t, U', L, hT, X', hL, e1, e2, hq, st⟩
/-- not caught here, past rows that name other classes: it goes on to the caller -/
theorem vx_outP {p : Program} {l : Launch} {e : Env} {R : Room} {s : State} {m : MethodId} {args : Array Value} {below : List Frame} {meth : Method} {c : Code} {H : Heap} {locs : List Loc} {cells slots : Nat} {free : Addr → Prop} {ls : Array Slot} {rest : List Value} {Qc : Array Value → State → Outcome → State → Prop} {XC : String → State → State → Prop}
    {pc : Nat} {own E : String} {ce : Cell} {q : Addr} {mc ms : Nat} (hown : s.vm.findClass own = some m.cls) (hlocks : meth.locks = false)
    (hpass : ∀ z ∈ c.exceptionTable.toList, covers z pc = false ∨ (z.catchType ≠ 0 ∧ ∃ nm : String, (Cond.classLink own z.catchType nm).before args s = true ∧ va_Nc E nm s)) (hcell : H[q]? = some ce) (hv : ce.vm = .none) (hcl : s.vm.findClass E = some ce.cls)
    (hx : ∀ t : State, t.heap = H → s.vm.Alike t.vm → XC E s t) (hf : ∀ z ∈ locs, free z.base) (hc : cells ≤ mc) (hs : slots ≤ ms) :
    vx_W p l e R s m args below meth c H locs cells slots (vx_MQ below Qc XC args s mc ms free) (F0 m pc ls rest) q := by
  intro T hT X
  have hpl : e.platform.magicAccessors = ({} : Platform).magicAccessors := by rw [X.admits.platform]
  obtain ⟨vm', hW', X', st⟩ := X.outThrough hlocks q (g := F0 m pc ls rest) rfl rfl rfl (cell := ce) (by rw [hT]; exact hcell) (by rw [hv]; rfl)
    (by obtain ⟨k9, h9, -⟩ := Vm.findClass_spec hcl; exact ⟨k9, h9⟩) (fun z hz => by
      rcases hpass z hz with h | ⟨hz0, nm, hl1, hn1⟩
      · exact Or.inl h
      · obtain ⟨c6, hc6, hcl6⟩ := Cond.classLink_spec hown hl1 e.platform hpl
        obtain ⟨a8, b8, h1, h2, h3⟩ := hn1
        cases Option.some.inj (h1.symm.trans hcl)
        cases Option.some.inj (h2.symm.trans hc6)
        exact Or.inr ⟨hz0, _, hcl6, h3⟩)
  obtain ⟨g₀, hfr⟩ := X'.frames_eq
  have hcell9 : ((T.setVm vm').setFrames (.throwing q :: below)).heap[q]? = some ce := by
    show T.heap[q]? = some ce
    rw [hT]; exact hcell
  have hend : Ended ((T.setVm vm').setFrames (.throwing q :: below)) below (.threw q) := State.frames_setFrames _ (State.cur_lt_of_frames hfr)
  refine ⟨(T.setVm vm').setFrames (.throwing q :: below), ?_, .threw q, X'.here.running, hend, Or.inr ⟨q, rfl, E, ce, locs, hx _ hT (X'.ends _).1.alike, hcell9, hv, hcl, (X'.ends _).1, (X'.ends _).2.mono hc hs, hf⟩⟩
  rw [X.pushThrowing_eq]
  exact st
/-- a thing of a world lies in the heap -/
theorem vx_lt {D : va_G} {cl : List vw_C} {ws : va_W} {H1 : Heap} (h : va_P D cl ws H1) {k : Nat} {q : Nat × va_E} (hk : ws[k]? = some q) : q.1 < H1.size := (h k q hk).lt
end VXS
/-! ===== END ===== -/
/-! ===== BEGIN methods with a table of their own: called by a name, returning or throwing ===== -/
section VXH
/-! vx_backW, vx_callVX, vx_callSX, vx_callVW, vx_runVW, vx_runVX, vx_runSX, vx_ofWH follow the same proofs as their sisters above (Free/Laws.lean, Shelf42/LK1.lean); vx_outP calls Shelf42/NT130.lean (outThrough). -/
section
variable {l : Launch} {R : Room} {p : Program} {e : Env} {below : List Frame} {s : State} {sargs : Array Value} {y : MethodName} {len W9 : Nat}
theorem vx_backW {ws : List Cond} {rm : Room} {Pc : Array Value → State → Prop} {Qc : Array Value → State → Outcome → State → Prop} {XC : String → State → State → Prop} {mc ms : Nat} {free : Addr → Prop} {bytes : ByteArray} {maxL : Nat} {ret : Option FieldType} {hh : List (Nat × Nat × Nat × Nat)}
    (hM : vx_Met l y ws rm Pc Qc XC mc ms free) (hblind : FrameBlind Pc) (hrc : rm.cells = mc) (hrs : rm.slots = ms)
    (hframes : rm.frames + 1 ≤ R.frames) (hlocals : W9 + (maxL + 11) + rm.locals ≤ R.locals)
    (hws : ∀ w ∈ ws, ∀ a' U, s.WarmedH U.vm → w.before a' U = true) (hcode : Cond.codeWith y bytes maxL ret hh ∈ ws) (hinit : ∀ a' U, s.WarmedH U.vm → (Cond.initialized y.cls).before a' U = true) :
    vx_Back l R p e below s sargs y len W9 (PreOf R mc ms Pc) (PostOf Qc mc ms free) (vx_Post XC mc ms free) := by
  intro m meth c A g ig mk a X hg hsize hdg hW hn hp
  have h1 : (headSpec ws rm).pre.before a A.U = true := atoms_intro fun w hw => hws w hw _ _ X.warmed
  have h2 : (Cond.codeWith y bytes maxL ret hh).before a A.U = true := hws _ hcode _ _ X.warmed
  have h3 : (Cond.initialized y.cls).before a A.U = true := hinit _ _ X.warmed
  have h4 : A.cells + (headSpec ws rm).room.cells ≤ R.cells := by rw [show (headSpec ws rm).room.cells = mc from hrc]; exact hp.1
  have h5 : A.slots + (headSpec ws rm).room.slots ≤ R.slots := by rw [show (headSpec ws rm).room.slots = ms from hrs]; exact hp.2.1
  have hPc : Pc a (A.U.calling g mk a) := hblind _ _ _ _ hp.2.2
  obtain ⟨U, Ls, c0, s0⟩ := A
  dsimp only [Pt.U, Pt.locs, Pt.cells, Pt.slots] at h1 h2 h3 h4 h5 X hn hPc ⊢
  obtain ⟨m9, methY, cY, hn9, hmY, hcY, -, hlY, -⟩ := Cond.codeWith_spec h2
  cases Option.some.inj (hn9.symm.trans hn)
  obtain ⟨kY, hkY, -⟩ := className_of_methodNamed hn
  have hinitY : kY.init = .initialized := Cond.initialized_spec (findClass_of_methodNamed hn) hkY h3
  have h : At U g.method c below := by rw [hg]; exact X.here
  have hlocals9 : W9 + (maxL + 11) + (headSpec ws rm).room.locals ≤ R.locals := hlocals
  have happ : (headSpec ws rm).appliesLoose y e.platform (U.calling g mk a) = true :=
    Spec.appliesLoose_calling (g := g) h hdg hn hkY hinitY
      (X.room_calling (g := g) (R' := (headSpec ws rm).room) hsize hmY hcY hframes (by rw [hlY]; omega) h4 h5) h1
  obtain ⟨mid, hmid⟩ := h.above
  have hfr : (U.setTop g).frames = (.java g :: mid) ++ below := by rw [State.frames_setTop' g h.top, hmid]; rfl
  obtain ⟨o, s₂, hsteps, -, hend, hq⟩ := Steps.callFree hM p X.admits X.cas X.clock (acts := []) hfr happ hPc trivial
  have hq' : vx_Q Qc XC mc ms free a (U.calling g mk a) o s₂ := hq
  rw [State.frames_setTop' g h.top] at hend
  obtain ⟨g₀, hg0⟩ := Option.isSome_iff_exists.mp h.top
  obtain ⟨r, hr⟩ := State.topJava?_eq_some.mp hg0
  have hr' : (({ U with heap := s₂.heap, slotsUsed := s₂.slotsUsed } : State).setVm s₂.vm).frames = .java g₀ :: r := hr
  rcases hq' with ⟨hqc, L, hfe, hL⟩ | ⟨q, rfl, E, ce, L, hx, hce, hcv, hcl, hW₂, hsm, hL⟩
  · obtain ⟨⟨v, rfl⟩, hW₂, e2, q2, q3, q4, q5, q6⟩ := id hfe
    have e3 : s₂ = ({ (U.calling g mk a).setFrames s₂.frames with heap := s₂.heap, slotsUsed := s₂.slotsUsed } : State).setVm s₂.vm := by
      have : s₂ = ({ s₂ with vm := (U.calling g mk a).vm } : State).setVm s₂.vm := rfl
      rw [e2] at this
      exact this
    obtain ⟨c₂, i₂, len₂, hc₂, hd₂, hf₂⟩ := hend
    have hW' : U.WarmedH s₂.vm := hW₂
    have hcc : c₂ = c := by
      have h1 : s₂.code? g.method = U.code? g.method := by
        rw [State.code?_eq, State.code?_eq, hW'.alike.method?]
      exact Option.some.inj (hc₂.symm.trans (h1.trans h.code))
    subst hcc
    have hlen : len₂ = len := by rw [hdg] at hd₂; cases hd₂; rfl
    subst hlen
    have hs₂ : s₂ = (({ U with heap := s₂.heap, slotsUsed := s₂.slotsUsed } : State).setVm s₂.vm).setTop { g with pc := g.pc + len₂, stack := v.toList ++ g.stack } := by
      refine e3.trans ?_
      rw [hf₂, State.calling_eq h.top, State.setFrames_setFrames, State.setTop_of_frames _ hr', hr]
      rfl
    have hsame : U.sameButNew ({ U with heap := s₂.heap, slotsUsed := s₂.slotsUsed } : State) L mc ms := by
      refine ⟨?_, q2, q3, q4, q5, q6⟩
      obtain ⟨t, ht, -⟩ := State.frames_cons hr
      show ({ U with heap := s₂.heap, slotsUsed := s₂.slotsUsed } : State) = { U.setFrames U.frames with heap := s₂.heap, slotsUsed := s₂.slotsUsed }
      rw [State.setFrames_self ht]
    subst hg
    refine Or.inl ⟨v, ⟨(({ U with heap := s₂.heap, slotsUsed := s₂.slotsUsed } : State).setVm s₂.vm), Ls ++ L, c0 + mc, s0 + ms⟩,
      ⟨X.admits, X.cas, X.clock, X.frames, X.room, X.hears, X.method, X.code, (X.here.setHeapUsed s₂.heap s₂.slotsUsed).setVm hW'.alike, X.tail, State.WarmedH.trans X.warmed hW', X.limits, X.bytes, X.same.trans (hsame.setVm s.vm)⟩,
      ⟨g, mk, s₂, L, rfl, rfl, hqc, rfl, hL, rfl, rfl⟩, ?_⟩
    show Steps p.tables e below _ ((({ U with heap := s₂.heap, slotsUsed := s₂.slotsUsed } : State).setVm s₂.vm).setTop { g with pc := g.pc + len₂, stack := v.toList ++ g.stack })
    rw [← hs₂]
    exact hsteps
  · obtain ⟨e2, q2, q3, q4, q5, q6⟩ := id hsm
    have e3 : s₂ = ({ (U.calling g mk a).setFrames s₂.frames with heap := s₂.heap, slotsUsed := s₂.slotsUsed } : State).setVm s₂.vm := by
      have : s₂ = ({ s₂ with vm := (U.calling g mk a).vm } : State).setVm s₂.vm := rfl
      rw [e2] at this
      exact this
    have hf₂ : s₂.frames = .throwing q :: .java g :: U.frames.tail := hend
    have hW' : U.WarmedH s₂.vm := hW₂
    have hs₂ : s₂ = ((({ U with heap := s₂.heap, slotsUsed := s₂.slotsUsed } : State).setVm s₂.vm).setTop g).pushFrame (.throwing q) := by
      refine e3.trans ?_
      rw [hf₂, State.calling_eq h.top, State.setFrames_setFrames, State.pushFrame, State.frames_setTop _ hr', State.setTop_of_frames _ hr', State.setFrames_setFrames, hr]
      rfl
    have hsame : U.sameButNew ({ U with heap := s₂.heap, slotsUsed := s₂.slotsUsed } : State) L mc ms := by
      refine ⟨?_, q2, q3, q4, q5, q6⟩
      obtain ⟨t, ht, -⟩ := State.frames_cons hr
      show ({ U with heap := s₂.heap, slotsUsed := s₂.slotsUsed } : State) = { U.setFrames U.frames with heap := s₂.heap, slotsUsed := s₂.slotsUsed }
      rw [State.setFrames_self ht]
    subst hg
    refine Or.inr ⟨q, ⟨(({ U with heap := s₂.heap, slotsUsed := s₂.slotsUsed } : State).setVm s₂.vm), Ls ++ L, c0 + mc, s0 + ms⟩,
      ⟨X.admits, X.cas, X.clock, X.frames, X.room, X.hears, X.method, X.code, (X.here.setHeapUsed s₂.heap s₂.slotsUsed).setVm hW'.alike, X.tail, State.WarmedH.trans X.warmed hW', X.limits, X.bytes, X.same.trans (hsame.setVm s.vm)⟩,
      ⟨g, mk, s₂, L, E, ce, rfl, rfl, hx, hce, hcv, hcl, rfl, hL, rfl, rfl⟩, ?_⟩
    show Steps p.tables e below _ (((({ U with heap := s₂.heap, slotsUsed := s₂.slotsUsed } : State).setVm s₂.vm).setTop g).pushFrame (.throwing q))
    rw [← hs₂]
    exact hsteps
end
variable {p : Program} {l : Launch} {e : Env} {R : Room} {s : State} {m : MethodId} {args : Array Value} {below : List Frame} {meth : Method} {c : Code} {T : State} {H : Heap} {locs : List Loc} {cells slots : Nat}
theorem vx_callVX (X : Stand p l e R s m args below meth c T locs cells slots) (hexec : p.tables.exec = Jvm.exec) {own C : String} {index : Nat} {y : MethodName} {bytes : ByteArray} {maxL : Nat} {ret : Option FieldType} {hh : List (Nat × Nat × Nat × Nat)}
    (hown : s.vm.findClass own = some m.cls) (hlink : (Cond.methodLink own index y).before args s = true) (hinst : (Cond.instanceMethod y).before args s = true) (hsel : (Cond.selects C y y).before args s = true)
    (hcode : (Cond.codeWith y bytes maxL ret hh).before args s = true) (hy : y.cls ≠ "java/lang/invoke/MethodHandle" ∧ y.cls ≠ "java/lang/invoke/VarHandle")
    {W9 : Nat} {Pre : Pt → Array Value → Prop} {Post : Pt → Array Value → Option Value → Pt → Prop} {PostX : Pt → Array Value → Addr → Pt → Prop} (hK : vx_Back l R p e below s args y 3 W9 Pre Post PostX)
    {b : Addr} {cellB : Cell} (hcell : T.heap[b]? = some cellB) (hobj : cellB.vm.isStatics = false) (hcls : s.vm.findClass C = some cellB.cls)
    {g : JFrame} (hg : g.method = m) (hsize : g.locals.size = c.maxLocals) {argsL rest : List Value} (hlen : ∀ sig, parseMethodDescriptor y.desc = some sig → argsL.length = sig.parameters.length)
    (hstack : g.stack = argsL.reverse ++ .ref b :: rest) (hW : 2 * g.monitorRoom + (rest.map fun v => v.category).sum ≤ W9) (hdg : decode c.code g.pc = .ok (.invokevirtual index, 3))
    (hpre : ∀ vm₁, s.WarmedH vm₁ → Pre ⟨T.setVm vm₁, locs, cells, slots⟩ (Value.ref b :: argsL).toArray) :
    (∃ (v : Option Value) (vm₁ : Vm) (B : Pt), s.WarmedH vm₁ ∧ Stand p l e R s m args below meth c B.U B.locs B.cells B.slots ∧ Post ⟨T.setVm vm₁, locs, cells, slots⟩ (Value.ref b :: argsL).toArray v B ∧
      ∀ target, Steps p.tables e below (B.U.setTop { g with pc := g.pc + 3, stack := v.toList ++ rest }) target → Steps p.tables e below (T.setTop g) target) ∨
    (∃ (q : Addr) (vm₁ : Vm) (B : Pt), s.WarmedH vm₁ ∧ Stand p l e R s m args below meth c B.U B.locs B.cells B.slots ∧ PostX ⟨T.setVm vm₁, locs, cells, slots⟩ (Value.ref b :: argsL).toArray q B ∧
      Steps p.tables e below (T.setTop g) ((B.U.setTop { g with stack := rest }).pushFrame (.throwing q))) := by
  obtain ⟨mk, methM, hnamed, hmethM, hstM, habM⟩ := Cond.instanceMethod_spec hinst
  obtain ⟨m8, methM', cM, hn8, hmethM', -, -, -, -, -, -, hsigM⟩ := Cond.codeWith_spec hcode
  cases Option.some.inj (hn8.symm.trans hnamed)
  cases hmethM.symm.trans hmethM'
  obtain ⟨c2, r2, m2, q1, q2, q3, q4, kP, hkP, hkPi⟩ := Cond.selects_spec hsel
  cases hcls.symm.trans q1
  cases (State.methodFound?_of_named hnamed hy).symm.trans q2
  cases hnamed.symm.trans q3
  have hselP : selectMethod e.platform s.vm cellB.cls mk = .method mk := by rw [Launch.admits_selectMethod X.admits]; exact q4
  obtain ⟨vm₁, X₁, hstep₁⟩ := X.invokevirtual hexec hown hlink hnamed hmethM hstM hkP hkPi hy (a := b) (cell := cellB) hcell
    (fun z h => by rw [h] at hobj; cases hobj) hselP hmethM habM hkP hkPi (g := g) hg (argsL := argsL) (rest := rest) (hlen _ hsigM) hstack hdg
  rcases hK m meth c ⟨T.setVm vm₁, locs, cells, slots⟩ { g with stack := rest } (.invokevirtual index) mk (Value.ref b :: argsL).toArray X₁ hg hsize hdg hW (X₁.named hnamed) (hpre vm₁ X₁.warmed) with ⟨v, B, X', hpost, hsteps⟩ | ⟨q, B, X', hpost, hsteps⟩
  · exact Or.inl ⟨v, vm₁, B, X₁.warmed, X', hpost, fun target h => hstep₁ _ fun acts => by rw [doInvoke_state]; exact hsteps.trans h⟩
  · exact Or.inr ⟨q, vm₁, B, X₁.warmed, X', hpost, hstep₁ _ fun acts => by rw [doInvoke_state]; exact hsteps⟩
theorem vx_callSX (X : Stand p l e R s m args below meth c T locs cells slots) (hexec : p.tables.exec = Jvm.exec) {own : String} {index : Nat} {y : MethodName} {bytes : ByteArray} {maxL : Nat} {ret : Option FieldType} {hh : List (Nat × Nat × Nat × Nat)}
    (hown : s.vm.findClass own = some m.cls) (hlink : (Cond.methodLink own index y).before args s = true) (hstat : (Cond.static y).before args s = true) (hinit : (Cond.initialized y.cls).before args s = true)
    (hcode : (Cond.codeWith y bytes maxL ret hh).before args s = true) (hy : y.cls ≠ "java/lang/invoke/MethodHandle" ∧ y.cls ≠ "java/lang/invoke/VarHandle")
    {W9 : Nat} {Pre : Pt → Array Value → Prop} {Post : Pt → Array Value → Option Value → Pt → Prop} {PostX : Pt → Array Value → Addr → Pt → Prop} (hK : vx_Back l R p e below s args y 3 W9 Pre Post PostX)
    {g : JFrame} (hg : g.method = m) (hsize : g.locals.size = c.maxLocals) {argsL rest : List Value} (hlen : ∀ sig, parseMethodDescriptor y.desc = some sig → argsL.length = sig.parameters.length)
    (hstack : g.stack = argsL.reverse ++ rest) (hW : 2 * g.monitorRoom + (rest.map fun v => v.category).sum ≤ W9) (hdg : decode c.code g.pc = .ok (.invokestatic index, 3))
    (hpre : ∀ vm₁, s.WarmedH vm₁ → Pre ⟨T.setVm vm₁, locs, cells, slots⟩ argsL.toArray) :
    (∃ (v : Option Value) (vm₁ : Vm) (B : Pt), s.WarmedH vm₁ ∧ Stand p l e R s m args below meth c B.U B.locs B.cells B.slots ∧ Post ⟨T.setVm vm₁, locs, cells, slots⟩ argsL.toArray v B ∧
      ∀ target, Steps p.tables e below (B.U.setTop { g with pc := g.pc + 3, stack := v.toList ++ rest }) target → Steps p.tables e below (T.setTop g) target) ∨
    (∃ (q : Addr) (vm₁ : Vm) (B : Pt), s.WarmedH vm₁ ∧ Stand p l e R s m args below meth c B.U B.locs B.cells B.slots ∧ PostX ⟨T.setVm vm₁, locs, cells, slots⟩ argsL.toArray q B ∧
      Steps p.tables e below (T.setTop g) ((B.U.setTop { g with stack := rest }).pushFrame (.throwing q))) := by
  obtain ⟨mk, methM, cM, hnamed, hmethM, -, -, -, -, -, -, hsigM⟩ := Cond.codeWith_spec hcode
  have hstatic : methM.isStatic = true := Cond.static_spec hnamed hmethM hstat
  obtain ⟨kP, hkP, -⟩ := className_of_methodNamed hnamed
  have hinitP : kP.init = .initialized := Cond.initialized_spec (findClass_of_methodNamed hnamed) hkP hinit
  obtain ⟨vm₁, X₁, hstep₁⟩ := X.invokestatic hexec hown hlink hnamed hmethM hstatic hkP hinitP hy (g := g) hg (argsL := argsL) (rest := rest) (hlen _ hsigM) hstack hdg
  rcases hK m meth c ⟨T.setVm vm₁, locs, cells, slots⟩ { g with stack := rest } (.invokestatic index) mk argsL.toArray X₁ hg hsize hdg hW (X₁.named hnamed) (hpre vm₁ X₁.warmed) with ⟨v, B, X', hpost, hsteps⟩ | ⟨q, B, X', hpost, hsteps⟩
  · exact Or.inl ⟨v, vm₁, B, X₁.warmed, X', hpost, fun target h => hstep₁ _ fun acts => by rw [doInvoke_state]; exact hsteps.trans h⟩
  · exact Or.inr ⟨q, vm₁, B, X₁.warmed, X', hpost, hstep₁ _ fun acts => by rw [doInvoke_state]; exact hsteps⟩
theorem vx_callVW (X : Stand p l e R s m args below meth c T locs cells slots) (hexec : p.tables.exec = Jvm.exec) {own C : String} {index : Nat} {y : MethodName} {bytes : ByteArray} {maxL : Nat} {ret : Option FieldType} {hh : List (Nat × Nat × Nat × Nat)}
    (hown : s.vm.findClass own = some m.cls) (hlink : (Cond.methodLink own index y).before args s = true) (hinst : (Cond.instanceMethod y).before args s = true) (hsel : (Cond.selects C y y).before args s = true)
    (hcode : (Cond.codeWith y bytes maxL ret hh).before args s = true) (hy : y.cls ≠ "java/lang/invoke/MethodHandle" ∧ y.cls ≠ "java/lang/invoke/VarHandle")
    {W9 : Nat} {Pre : Pt → Array Value → Prop} {Post : Pt → Array Value → Option Value → Pt → Prop} (hK : Back l R p e below s args y 3 W9 Pre Post)
    {b : Addr} {cellB : Cell} (hcell : T.heap[b]? = some cellB) (hobj : cellB.vm.isStatics = false) (hcls : s.vm.findClass C = some cellB.cls)
    {g : JFrame} (hg : g.method = m) (hsize : g.locals.size = c.maxLocals) {argsL rest : List Value} (hlen : ∀ sig, parseMethodDescriptor y.desc = some sig → argsL.length = sig.parameters.length)
    (hstack : g.stack = argsL.reverse ++ .ref b :: rest) (hW : 2 * g.monitorRoom + (rest.map fun v => v.category).sum ≤ W9) (hdg : decode c.code g.pc = .ok (.invokevirtual index, 3))
    (hpre : ∀ vm₁, s.WarmedH vm₁ → Pre ⟨T.setVm vm₁, locs, cells, slots⟩ (Value.ref b :: argsL).toArray) :
    ∃ (v : Option Value) (vm₁ : Vm) (B : Pt), s.WarmedH vm₁ ∧ Stand p l e R s m args below meth c B.U B.locs B.cells B.slots ∧ Post ⟨T.setVm vm₁, locs, cells, slots⟩ (Value.ref b :: argsL).toArray v B ∧
      ∀ target, Steps p.tables e below (B.U.setTop { g with pc := g.pc + 3, stack := v.toList ++ rest }) target → Steps p.tables e below (T.setTop g) target := by
  obtain ⟨mk, methM, hnamed, hmethM, hstM, habM⟩ := Cond.instanceMethod_spec hinst
  obtain ⟨m8, methM', cM, hn8, hmethM', -, -, -, -, -, -, hsigM⟩ := Cond.codeWith_spec hcode
  cases Option.some.inj (hn8.symm.trans hnamed)
  cases hmethM.symm.trans hmethM'
  obtain ⟨c2, r2, m2, q1, q2, q3, q4, kP, hkP, hkPi⟩ := Cond.selects_spec hsel
  cases hcls.symm.trans q1
  cases (State.methodFound?_of_named hnamed hy).symm.trans q2
  cases hnamed.symm.trans q3
  have hselP : selectMethod e.platform s.vm cellB.cls mk = .method mk := by rw [Launch.admits_selectMethod X.admits]; exact q4
  obtain ⟨vm₁, X₁, hstep₁⟩ := X.invokevirtual hexec hown hlink hnamed hmethM hstM hkP hkPi hy (a := b) (cell := cellB) hcell
    (fun z h => by rw [h] at hobj; cases hobj) hselP hmethM habM hkP hkPi (g := g) hg (argsL := argsL) (rest := rest) (hlen _ hsigM) hstack hdg
  obtain ⟨v, B, X', hpost, hsteps⟩ := hK m meth c ⟨T.setVm vm₁, locs, cells, slots⟩ { g with stack := rest } (.invokevirtual index) mk (Value.ref b :: argsL).toArray X₁ hg hsize hdg hW (X₁.named hnamed) (hpre vm₁ X₁.warmed)
  exact ⟨v, vm₁, B, X₁.warmed, X', hpost, fun target h => hstep₁ _ fun acts => by rw [doInvoke_state]; exact hsteps.trans h⟩
abbrev vx_CVW (R : Room) (s : State) (args : Array Value) (own C : String) (index : Nat) (y : MethodName) (bytes : ByteArray) (maxL : Nat) (ret : Option FieldType) (hh : List (Nat × Nat × Nat × Nat)) (ws : List Cond) (rm : Room) (mc ms n : Nat) : Prop :=
  (rm.cells = mc ∧ rm.slots = ms ∧ rm.frames + 1 ≤ R.frames ∧ 8 + (maxL + 11) + rm.locals ≤ R.locals ∧ (∀ w ∈ ws, ∀ (a' : Array Value) (U : State), s.WarmedH U.vm → w.before a' U = true) ∧ Cond.codeWith y bytes maxL ret hh ∈ ws) ∧
  (Cond.codeWith y bytes maxL ret hh).before args s = true ∧ (Cond.initialized y.cls).before args s = true ∧ (y.cls ≠ "java/lang/invoke/MethodHandle" ∧ y.cls ≠ "java/lang/invoke/VarHandle") ∧
  (∀ sig, parseMethodDescriptor y.desc = some sig → n = sig.parameters.length) ∧ (Cond.methodLink own index y).before args s = true ∧ (Cond.instanceMethod y).before args s = true ∧ (Cond.selects C y y).before args s = true
theorem vx_cwVW {own C : String} {index maxL mc ms : Nat} {y : MethodName} {bytes : ByteArray} {ret : Option FieldType} {hh : List (Nat × Nat × Nat × Nat)} {Ts ws ws' : List Cond} {rm : Room} (n : Nat) (ht : ∀ w ∈ Ts, w.before args s = true) (hT : GoodIn Ts (wsV own index C y ws)) (hw : ws = Cond.codeWith y bytes maxL ret hh :: ws') (hrc : rm.cells = mc) (hrs : rm.slots = ms)
    (hd : y.cls = C ∧ y.cls ≠ "java/lang/invoke/MethodHandle" ∧ y.cls ≠ "java/lang/invoke/VarHandle" ∧ (parseMethodDescriptor y.desc).map (fun d => d.parameters.length) = some n) (hR : rm.frames + 1 ≤ R.frames ∧ 8 + (maxL + 11) + rm.locals ≤ R.locals) :
    vx_CVW R s args own C index y bytes maxL ret hh ws rm mc ms n := by
  obtain ⟨hC, hd⟩ := hd
  subst hC
  have ok : ∀ w ∈ wsV own index y.cls y ws, w.before args s = true := fun w h => ht w (hT w h).1
  have hG : GoodIn Ts ws := fun w h => hT w (by unfold wsV; exact List.mem_append_right _ h)
  have hc : Cond.codeWith y bytes maxL ret hh ∈ ws := by rw [hw]; exact List.mem_cons_self
  refine ⟨⟨hrc, hrs, hR.1, hR.2, pay_in ht hG, hc⟩, ht _ (hG _ hc).1, ok _ (by simp [wsV]), ⟨hd.1, hd.2.1⟩, fun sig h => ?_, ok _ (by simp [wsV]), ok _ (by simp [wsV]), ok _ (by simp [wsV])⟩
  have h2 := hd.2.2
  rw [h] at h2
  exact (Option.some.inj h2).symm
theorem vx_runVW {y : MethodName} {bytes cc : ByteArray} {maxL nL mc ms n index : Nat} {ret : Option FieldType} {hh : List (Nat × Nat × Nat × Nat)} {ws : List Cond} {rm : Room} {Pc : Array Value → State → Prop} {Qc : Array Value → State → Outcome → State → Prop} {free : Addr → Prop} {Ts : List Cond} {own C : String} {b : Addr} {As rest : List Value} {g : JFrame}
    (S : CallFix p m c cc nL s args Ts own) (hM : Met l y ws rm Pc Qc mc ms free) (cw : vx_CVW R s args own C index y bytes maxL ret hh ws rm mc ms n) (hp : PreV s H C b Pc As)
    (hg : g.method = m) (hn : As.length = n) (hsize : g.locals.size = nL) (hstack : g.stack = As.reverse ++ .ref b :: rest) (hW : 2 * g.monitorRoom + (rest.map fun v => v.category).sum ≤ 8) (hdg : decode cc g.pc = .ok (.invokevirtual index, 3)) (hf : cells + mc ≤ R.cells ∧ slots + ms ≤ R.slots) :
    va_Run p l e R s m args below meth c H locs cells slots mc ms g rest (Qc (Value.ref b :: As).toArray) free := by
  obtain ⟨⟨hrc, hrs, hfr, hlo, hws, hcw⟩, hcode, hini, hy, hlen, hl, hin, hse⟩ := cw
  have hK : Back l R p e below s args y 3 8 (PreOf R mc ms Pc) (PostOf Qc mc ms free) := va_backW (hh := hh) (bytes := bytes) (maxL := maxL) (ret := ret) hM hp.1 hrc hrs hfr hlo hws hcw (fun a' U hW => word_at hW (Or.inl (by first | rfl | simp [Cond.onTables, Cond.keeps, Cond.steady])) hini)
  obtain ⟨hx, hb, hml, ho, -⟩ := S
  obtain ⟨-, ⟨cellB, hcB, hoB, hclB⟩, hPc⟩ := hp
  intro T hT X
  obtain ⟨v, vm₁, ⟨U', l2, c2, s2⟩, hW₁, X', ⟨g', mk, t, L, e1, e2, hq, h1, hL, h2, h3⟩, st⟩ := vx_callVW X hx (C := C) (hh := hh) (bytes := bytes) (maxL := maxL) (ret := ret) ho hl hin hse hcode hy hK (by rw [hT]; exact hcB) hoB hclB hg (hsize.trans hml.symm) (argsL := As) (rest := rest) (fun sig h => hn.trans (hlen sig h)) hstack hW (by rw [hb]; exact hdg)
    (fun vm₁ hW₁ => ⟨hf.1, hf.2, hPc (T.setVm vm₁) hT hW₁⟩)
  dsimp only [Pt.U, Pt.locs, Pt.cells, Pt.slots] at X' e1 e2 h1 h2 h3 st
  subst h1; subst h2; subst h3
  exact ⟨v, (T.setVm vm₁).calling g' mk (Value.ref b :: As).toArray, t, U', L, hT, X', hL, e1, e2, hq, st⟩
section
variable {y : MethodName} {bytes cc : ByteArray} {maxL nL mc ms n index : Nat} {ret : Option FieldType} {ws : List Cond} {rm : Room} {Pc : Array Value → State → Prop} {Qc : Array Value → State → Outcome → State → Prop} {XC : String → State → State → Prop} {free : Addr → Prop} {Ts : List Cond} {own C : String} {b : Addr} {As rest : List Value} {g : JFrame}
theorem vx_runVX {hh : List (Nat × Nat × Nat × Nat)} (S : CallFix p m c cc nL s args Ts own) (hM : vx_Met l y ws rm Pc Qc XC mc ms free) (cw : vx_CVW R s args own C index y bytes maxL ret hh ws rm mc ms n) (hp : PreV s H C b Pc As)
    (hg : g.method = m) (hn : As.length = n) (hsize : g.locals.size = nL) (hstack : g.stack = As.reverse ++ .ref b :: rest) (hW : 2 * g.monitorRoom + (rest.map fun v => v.category).sum ≤ 8) (hdg : decode cc g.pc = .ok (.invokevirtual index, 3)) (hf : cells + mc ≤ R.cells ∧ slots + ms ≤ R.slots) :
    vx_Run p l e R s m args below meth c H locs cells slots mc ms g rest (Qc (Value.ref b :: As).toArray) XC free := by
  obtain ⟨⟨hrc, hrs, hfr, hlo, hws, hcw⟩, hcode, hini, hy, hlen, hl, hin, hse⟩ := cw
  have hK : vx_Back l R p e below s args y 3 8 (PreOf R mc ms Pc) (PostOf Qc mc ms free) (vx_Post XC mc ms free) := vx_backW (hh := hh) (bytes := bytes) (maxL := maxL) (ret := ret) hM hp.1 hrc hrs hfr hlo hws hcw (fun a' U hW => word_at hW (Or.inl (by first | rfl | simp [Cond.onTables, Cond.keeps, Cond.steady])) hini)
  obtain ⟨hx, hb, hml, ho, -⟩ := S
  obtain ⟨-, ⟨cellB, hcB, hoB, hclB⟩, hPc⟩ := hp
  intro T hT X
  rcases vx_callVX X hx (C := C) (hh := hh) (bytes := bytes) (maxL := maxL) (ret := ret) ho hl hin hse hcode hy hK (by rw [hT]; exact hcB) hoB hclB hg (hsize.trans hml.symm) (argsL := As) (rest := rest) (fun sig h => hn.trans (hlen sig h)) hstack hW (by rw [hb]; exact hdg)
    (fun vm₁ hW₁ => ⟨hf.1, hf.2, hPc (T.setVm vm₁) hT hW₁⟩) with ⟨v, vm₁, ⟨U', l2, c2, s2⟩, hW₁, X', ⟨g', mk, t, L, e1, e2, hq, h1, hL, h2, h3⟩, st⟩ | ⟨q, vm₁, ⟨U', l2, c2, s2⟩, hW₁, X', ⟨g', mk, t, L, E, ce, e1, e2, hq, hce, hcv, hcl, h1, hL, h2, h3⟩, st⟩
  · dsimp only [Pt.U, Pt.locs, Pt.cells, Pt.slots] at X' e1 e2 h1 h2 h3 st
    subst h1; subst h2; subst h3
    exact Or.inl ⟨v, (T.setVm vm₁).calling g' mk (Value.ref b :: As).toArray, t, U', L, hT, X', hL, e1, e2, hq, st⟩
  · dsimp only [Pt.U, Pt.locs, Pt.cells, Pt.slots] at X' e1 e2 h1 h2 h3 st hcl
    subst h1; subst h2; subst h3
    exact Or.inr ⟨q, (T.setVm vm₁).calling g' mk (Value.ref b :: As).toArray, t, U', L, E, ce, hT, X', hL, e1, e2, hq, hce, hcv, vx_cls hW₁ hcl, st⟩
theorem vx_runSX {hh : List (Nat × Nat × Nat × Nat)} (S : CallFix p m c cc nL s args Ts own) (hM : vx_Met l y ws rm Pc Qc XC mc ms free) (cw : vx_CSW R s args own index y bytes maxL ret hh ws rm mc ms n) (hp : PreS s H Pc As)
    (hg : g.method = m) (hn : As.length = n) (hsize : g.locals.size = nL) (hstack : g.stack = As.reverse ++ rest) (hW : 2 * g.monitorRoom + (rest.map fun v => v.category).sum ≤ 8) (hdg : decode cc g.pc = .ok (.invokestatic index, 3)) (hf : cells + mc ≤ R.cells ∧ slots + ms ≤ R.slots) :
    vx_Run p l e R s m args below meth c H locs cells slots mc ms g rest (Qc As.toArray) XC free := by
  obtain ⟨⟨hrc, hrs, hfr, hlo, hws, hcw⟩, hcode, hini, hy, hlen, hl, hstt⟩ := cw
  have hK : vx_Back l R p e below s args y 3 8 (PreOf R mc ms Pc) (PostOf Qc mc ms free) (vx_Post XC mc ms free) := vx_backW (hh := hh) (bytes := bytes) (maxL := maxL) (ret := ret) hM hp.1 hrc hrs hfr hlo hws hcw (fun a' U hW => word_at hW (Or.inl (by first | rfl | simp [Cond.onTables, Cond.keeps, Cond.steady])) hini)
  obtain ⟨hx, hb, hml, ho, -⟩ := S
  intro T hT X
  rcases vx_callSX X hx (hh := hh) (bytes := bytes) (maxL := maxL) (ret := ret) ho hl hstt hini hcode hy hK hg (hsize.trans hml.symm) (argsL := As) (rest := rest) (fun sig h => hn.trans (hlen sig h)) hstack hW (by rw [hb]; exact hdg)
    (fun vm₁ hW₁ => ⟨hf.1, hf.2, hp.2 (T.setVm vm₁) hT hW₁⟩) with ⟨v, vm₁, ⟨U', l2, c2, s2⟩, hW₁, X', ⟨g', mk, t, L, e1, e2, hq, h1, hL, h2, h3⟩, st⟩ | ⟨q, vm₁, ⟨U', l2, c2, s2⟩, hW₁, X', ⟨g', mk, t, L, E, ce, e1, e2, hq, hce, hcv, hcl, h1, hL, h2, h3⟩, st⟩
  · dsimp only [Pt.U, Pt.locs, Pt.cells, Pt.slots] at X' e1 e2 h1 h2 h3 st
    subst h1; subst h2; subst h3
    exact Or.inl ⟨v, (T.setVm vm₁).calling g' mk As.toArray, t, U', L, hT, X', hL, e1, e2, hq, st⟩
  · dsimp only [Pt.U, Pt.locs, Pt.cells, Pt.slots] at X' e1 e2 h1 h2 h3 st hcl
    subst h1; subst h2; subst h3
    exact Or.inr ⟨q, (T.setVm vm₁).calling g' mk As.toArray, t, U', L, E, ce, hT, X', hL, e1, e2, hq, hce, hcv, vx_cls hW₁ hcl, st⟩
end
end VXH
theorem vx_ofWH {l : Launch} {y : MethodName} {ws ws' : List Cond} {rm : Room} {Pc : Array Value → State → Prop} {Qc : Array Value → State → Outcome → State → Prop} {XC : String → State → State → Prop} {mc ms : Nat} {free : Addr → Prop} {cc : ByteArray} {maxL : Nat} {ret : Option FieldType} {hh : List (Nat × Nat × Nat × Nat)}
    (hy : plainName y.cls = true) (hw : ws = Cond.codeWith y cc maxL ret hh :: ws')
    (body : ∀ p e s m args below meth c s₁, BodyLoose p l y (headSpec ws rm) cc maxL ret e s m args below meth c s₁ → c.maxLocals = maxL → Pc args s →
      W p l e (headSpec ws rm).room s m args below meth c s.heap [] 0 0 (vx_MQ below Qc XC args s mc ms free) (entryFrame m args maxL)) : vx_Met l y ws rm Pc Qc XC mc ms free := by
  refine MetFree.of_bodyS (code := cc) (maxLocals := maxL) (ret := ret) hy ?_ ?_
  · intro args s m h hn
    obtain ⟨m9, meth, c, hn9, h1, h2, h3, h4, -, h5, h6, -⟩ := Cond.codeWith_spec (atoms_spec (ws := ws) h _ (by rw [hw]; exact List.mem_cons_self))
    cases hn.symm.trans hn9
    exact ⟨meth, c, h1, h2, h3, h4, h5, h6⟩
  · intro p e s m args below meth c s₁ B hml hP _
    have hh0 : s₁.heap = s.heap := by rw [B.state]; rfl
    obtain ⟨t, a1, o, b1, b2, b3⟩ := body p e s m args below meth c s₁ B hml hP s₁ hh0 (Stand.of_body B)
    exact ⟨t, o, a1, b1, b2, b3⟩
/-! ===== END ===== -/

/-! ===== BEGIN printed: names, fields, word lists, decode rows ===== -/
end
section
def RX0 : String := "FoldedRealm$1"
def TX0 : u_T := fun k => match k with
  | _ => ("", "", "", false)
def tyX0 : Nat → FieldType := fun k => match k with
  | _ => .int
abbrev wsX00 : List Cond := u_ws RX0 TX0 0
theorem nmX0 : ∀ a, a < 0 → ∀ b, b < 0 → a ≠ b → (TX0 a).2.1 ≠ (TX0 b).2.1 := by decide +kernel
theorem tyX0_ok : ∀ k, k < 0 → parseFieldDescriptor (TX0 k).2.2.1 = some (tyX0 k) := by decide +kernel
def RX1 : String := "FoldedRealm$Formula"
def TX1 : u_T := fun k => match k with
  | 0 => ("FoldedRealm$Formula", "ofWrites", "Z", true)
  | 1 => ("FoldedRealm$Formula", "facts", "[I", true)
  | 2 => ("FoldedRealm$Formula", "stack", "[I", true)
  | 3 => ("FoldedRealm$Formula", "steps", "[I", true)
  | 4 => ("FoldedRealm$Formula", "from", "I", false)
  | _ => ("FoldedRealm$Formula", "to", "I", false)
def tyX1 : Nat → FieldType := fun k => match k with
  | 0 => .boolean
  | 1 => .array .int
  | 2 => .array .int
  | 3 => .array .int
  | 4 => .int
  | _ => .int
abbrev wsX10 : List Cond := u_ws RX1 TX1 6
theorem nmX1 : ∀ a, a < 6 → ∀ b, b < 6 → a ≠ b → (TX1 a).2.1 ≠ (TX1 b).2.1 := by decide +kernel
theorem tyX1_ok : ∀ k, k < 6 → parseFieldDescriptor (TX1 k).2.2.1 = some (tyX1 k) := by decide +kernel
abbrev cX1_init : ByteArray := prog_3_method_1_code
def yX1_init : MethodName := ⟨RX1, "<init>", "(Z[I)V"⟩
abbrev cX1_clear : ByteArray := prog_3_method_2_code
def yX1_clear : MethodName := ⟨RX1, "clear", "()V"⟩
abbrev cX1_beginAt : ByteArray := prog_3_method_3_code
def yX1_beginAt : MethodName := ⟨RX1, "beginAt", "(I)V"⟩
abbrev cX1_isTold : ByteArray := prog_3_method_4_code
def yX1_isTold : MethodName := ⟨RX1, "isTold", "()Z"⟩
abbrev cX1_add : ByteArray := prog_3_method_5_code
def yX1_add : MethodName := ⟨RX1, "add", "(I)V"⟩
abbrev cX1_addFact : ByteArray := prog_3_method_6_code
def yX1_addFact : MethodName := ⟨RX1, "addFact", "(I)V"⟩
abbrev cX1_setFact : ByteArray := prog_3_method_7_code
def yX1_setFact : MethodName := ⟨RX1, "setFact", "(II)V"⟩
abbrev cX1_held : ByteArray := prog_3_method_8_code
def yX1_held : MethodName := ⟨RX1, "held", "()I"⟩
abbrev cX1_factAt : ByteArray := prog_3_method_9_code
def yX1_factAt : MethodName := ⟨RX1, "factAt", "(I)I"⟩
abbrev cX1_joined : ByteArray := prog_3_method_10_code
def yX1_joined : MethodName := ⟨RX1, "joined", "(III)I"⟩
def RX2 : String := "FoldedRealm$FormulaReader"
def TX2 : u_T := fun k => match k with
  | _ => ("FoldedRealm$FormulaReader", "tokens", "LFoldedRealm$Tokens;", true)
def tyX2 : Nat → FieldType := fun k => match k with
  | _ => .object "FoldedRealm$Tokens"
abbrev wsX20 : List Cond := u_ws RX2 TX2 1
theorem nmX2 : ∀ a, a < 1 → ∀ b, b < 1 → a ≠ b → (TX2 a).2.1 ≠ (TX2 b).2.1 := by decide +kernel
theorem tyX2_ok : ∀ k, k < 1 → parseFieldDescriptor (TX2 k).2.2.1 = some (tyX2 k) := by decide +kernel
abbrev cX2_init : ByteArray := prog_4_method_1_code
def yX2_init : MethodName := ⟨RX2, "<init>", "(LFoldedRealm$Tokens;)V"⟩
abbrev cX2_readE : ByteArray := prog_4_method_2_code
def yX2_readE : MethodName := ⟨RX2, "readE", "(LFoldedRealm$Formula;I)Z"⟩
abbrev cX2_readTest : ByteArray := prog_4_method_3_code
def yX2_readTest : MethodName := ⟨RX2, "readTest", "(LFoldedRealm$Formula;I)Z"⟩
abbrev cX2_readSum : ByteArray := prog_4_method_4_code
def yX2_readSum : MethodName := ⟨RX2, "readSum", "(LFoldedRealm$Formula;I)Z"⟩
abbrev cX2_readProduct : ByteArray := prog_4_method_5_code
def yX2_readProduct : MethodName := ⟨RX2, "readProduct", "(LFoldedRealm$Formula;I)Z"⟩
abbrev cX2_readPart : ByteArray := prog_4_method_6_code
def yX2_readPart : MethodName := ⟨RX2, "readPart", "(LFoldedRealm$Formula;I)Z"⟩
abbrev cX2_readToClose : ByteArray := prog_4_method_7_code
def yX2_readToClose : MethodName := ⟨RX2, "readToClose", "(LFoldedRealm$Formula;I)Z"⟩
abbrev cX2_factTold : ByteArray := prog_4_method_8_code
def yX2_factTold : MethodName := ⟨RX2, "factTold", "(Z)I"⟩
abbrev cX2_factOfWrites : ByteArray := prog_4_method_9_code
def yX2_factOfWrites : MethodName := ⟨RX2, "factOfWrites", "()I"⟩
abbrev cX2_factOfDoes : ByteArray := prog_4_method_10_code
def yX2_factOfDoes : MethodName := ⟨RX2, "factOfDoes", "()I"⟩
def RX3 : String := "FoldedRealm$History"
def TX3 : u_T := fun k => match k with
  | 0 => ("FoldedRealm$History", "kept", "[LFoldedRealm$Standing;", true)
  | 1 => ("FoldedRealm$History", "first", "I", false)
  | _ => ("FoldedRealm$History", "size", "I", false)
def tyX3 : Nat → FieldType := fun k => match k with
  | 0 => .array (.object "FoldedRealm$Standing")
  | 1 => .int
  | _ => .int
abbrev wsX30 : List Cond := u_ws RX3 TX3 3
theorem nmX3 : ∀ a, a < 3 → ∀ b, b < 3 → a ≠ b → (TX3 a).2.1 ≠ (TX3 b).2.1 := by decide +kernel
theorem tyX3_ok : ∀ k, k < 3 → parseFieldDescriptor (TX3 k).2.2.1 = some (tyX3 k) := by decide +kernel
abbrev cX3_init : ByteArray := prog_5_method_1_code
def yX3_init : MethodName := ⟨RX3, "<init>", "()V"⟩
abbrev cX3_forget : ByteArray := prog_5_method_2_code
def yX3_forget : MethodName := ⟨RX3, "forget", "()V"⟩
abbrev cX3_keep : ByteArray := prog_5_method_3_code
def yX3_keep : MethodName := ⟨RX3, "keep", "(LFoldedRealm$Standing;)V"⟩
abbrev cX3_giveBack : ByteArray := prog_5_method_4_code
def yX3_giveBack : MethodName := ⟨RX3, "giveBack", "(LFoldedRealm$Standing;)Z"⟩
def RX4 : String := "FoldedRealm$Odds"
def TX4 : u_T := fun k => match k with
  | 0 => ("FoldedRealm$Odds", "likely", "[I", true)
  | 1 => ("FoldedRealm$Odds", "total", "[I", true)
  | 2 => ("FoldedRealm$Odds", "path", "[I", true)
  | 3 => ("FoldedRealm$Odds", "rowWords", "[I", true)
  | 4 => ("FoldedRealm$Odds", "rowTop", "[J", true)
  | 5 => ("FoldedRealm$Odds", "rowBottom", "[J", true)
  | _ => ("FoldedRealm$Odds", "rows", "I", false)
def tyX4 : Nat → FieldType := fun k => match k with
  | 0 => .array .int
  | 1 => .array .int
  | 2 => .array .int
  | 3 => .array .int
  | 4 => .array .long
  | 5 => .array .long
  | _ => .int
abbrev wsX40 : List Cond := u_ws RX4 TX4 7
theorem nmX4 : ∀ a, a < 7 → ∀ b, b < 7 → a ≠ b → (TX4 a).2.1 ≠ (TX4 b).2.1 := by decide +kernel
theorem tyX4_ok : ∀ k, k < 7 → parseFieldDescriptor (TX4 k).2.2.1 = some (tyX4 k) := by decide +kernel
abbrev cX4_init : ByteArray := prog_6_method_1_code
def yX4_init : MethodName := ⟨RX4, "<init>", "()V"⟩
abbrev cX4_likelyBehind : ByteArray := prog_6_method_2_code
def yX4_likelyBehind : MethodName := ⟨RX4, "likelyBehind", "(II)I"⟩
abbrev cX4_totalBehind : ByteArray := prog_6_method_3_code
def yX4_totalBehind : MethodName := ⟨RX4, "totalBehind", "(I)I"⟩
abbrev cX4_weighBehind : ByteArray := prog_6_method_4_code
def yX4_weighBehind : MethodName := ⟨RX4, "weighBehind", "(LFoldedRealm$Realm;LFoldedRealm$Standing;IIII)V"⟩
abbrev cX4_weighNext : ByteArray := prog_6_method_5_code
def yX4_weighNext : MethodName := ⟨RX4, "weighNext", "(LFoldedRealm$Realm;LFoldedRealm$Standing;)I"⟩
abbrev cX4_weighAll : ByteArray := prog_6_method_6_code
def yX4_weighAll : MethodName := ⟨RX4, "weighAll", "(LFoldedRealm$Realm;LFoldedRealm$Standing;II)V"⟩
abbrev cX4_likeliestAtBeginning : ByteArray := prog_6_method_7_code
def yX4_likeliestAtBeginning : MethodName := ⟨RX4, "likeliestAtBeginning", "(LFoldedRealm$Realm;I)I"⟩
abbrev cX4_drawnAtBeginning : ByteArray := prog_6_method_8_code
def yX4_drawnAtBeginning : MethodName := ⟨RX4, "drawnAtBeginning", "(LFoldedRealm$Realm;II)I"⟩
abbrev cX4_chanceOf : ByteArray := prog_6_method_9_code
def yX4_chanceOf : MethodName := ⟨RX4, "chanceOf", "(LFoldedRealm$Realm;II)I"⟩
abbrev cX4_inMillionths : ByteArray := prog_6_method_10_code
def yX4_inMillionths : MethodName := ⟨RX4, "inMillionths", "(JJ)I"⟩
abbrev cX4_gatherRows : ByteArray := prog_6_method_11_code
def yX4_gatherRows : MethodName := ⟨RX4, "gatherRows", "(LFoldedRealm$Realm;LFoldedRealm$Standing;)V"⟩
abbrev cX4_extend : ByteArray := prog_6_method_12_code
def yX4_extend : MethodName := ⟨RX4, "extend", "(LFoldedRealm$Realm;IIJJ)V"⟩
abbrev cX4_keepRow : ByteArray := prog_6_method_13_code
def yX4_keepRow : MethodName := ⟨RX4, "keepRow", "(JJ)V"⟩
abbrev cX4_greatestRow : ByteArray := prog_6_method_14_code
def yX4_greatestRow : MethodName := ⟨RX4, "greatestRow", "()I"⟩
abbrev cX4_hasRow : ByteArray := prog_6_method_15_code
def yX4_hasRow : MethodName := ⟨RX4, "hasRow", "(I)Z"⟩
abbrev cX4_millionths : ByteArray := prog_6_method_16_code
def yX4_millionths : MethodName := ⟨RX4, "millionths", "(I)I"⟩
abbrev cX4_wordOfRow : ByteArray := prog_6_method_17_code
def yX4_wordOfRow : MethodName := ⟨RX4, "wordOfRow", "(II)I"⟩
def RX5 : String := "FoldedRealm$Page"
def TX5 : u_T := fun k => match k with
  | 0 => ("FoldedRealm$Page", "standing", "LFoldedRealm$Standing;", true)
  | 1 => ("FoldedRealm$Page", "lines", "[I", true)
  | 2 => ("FoldedRealm$Page", "lineCount", "I", false)
  | 3 => ("FoldedRealm$Page", "readBits", "I", false)
  | 4 => ("FoldedRealm$Page", "readCount", "I", false)
  | _ => ("FoldedRealm$Page", "laid", "Z", false)
def tyX5 : Nat → FieldType := fun k => match k with
  | 0 => .object "FoldedRealm$Standing"
  | 1 => .array .int
  | 2 => .int
  | 3 => .int
  | 4 => .int
  | _ => .boolean
abbrev wsX50 : List Cond := u_ws RX5 TX5 6
theorem nmX5 : ∀ a, a < 6 → ∀ b, b < 6 → a ≠ b → (TX5 a).2.1 ≠ (TX5 b).2.1 := by decide +kernel
theorem tyX5_ok : ∀ k, k < 6 → parseFieldDescriptor (TX5 k).2.2.1 = some (tyX5 k) := by decide +kernel
abbrev cX5_init : ByteArray := prog_7_method_1_code
def yX5_init : MethodName := ⟨RX5, "<init>", "()V"⟩
abbrev cX5_begin : ByteArray := prog_7_method_2_code
def yX5_begin : MethodName := ⟨RX5, "begin", "(LFoldedRealm$Realm;)V"⟩
abbrev cX5_copyFrom : ByteArray := prog_7_method_3_code
def yX5_copyFrom : MethodName := ⟨RX5, "copyFrom", "(LFoldedRealm$Page;)V"⟩
abbrev cX5_takeLines : ByteArray := prog_7_method_4_code
def yX5_takeLines : MethodName := ⟨RX5, "takeLines", "([II)V"⟩
abbrev cX5_lineAt : ByteArray := prog_7_method_5_code
def yX5_lineAt : MethodName := ⟨RX5, "lineAt", "(I)I"⟩
def RX6 : String := "FoldedRealm$Reader"
def TX6 : u_T := fun k => match k with
  | 0 => ("FoldedRealm$Reader", "tokens", "LFoldedRealm$Tokens;", true)
  | 1 => ("FoldedRealm$Reader", "formulas", "LFoldedRealm$FormulaReader;", true)
  | 2 => ("FoldedRealm$Reader", "lines", "[I", true)
  | _ => ("FoldedRealm$Reader", "lineCount", "I", false)
def tyX6 : Nat → FieldType := fun k => match k with
  | 0 => .object "FoldedRealm$Tokens"
  | 1 => .object "FoldedRealm$FormulaReader"
  | 2 => .array .int
  | _ => .int
abbrev wsX60 : List Cond := u_ws RX6 TX6 4
theorem nmX6 : ∀ a, a < 4 → ∀ b, b < 4 → a ≠ b → (TX6 a).2.1 ≠ (TX6 b).2.1 := by decide +kernel
theorem tyX6_ok : ∀ k, k < 4 → parseFieldDescriptor (TX6 k).2.2.1 = some (tyX6 k) := by decide +kernel
abbrev cX6_init : ByteArray := prog_8_method_1_code
def yX6_init : MethodName := ⟨RX6, "<init>", "(LFoldedRealm$Tokens;)V"⟩
abbrev cX6_readRealm : ByteArray := prog_8_method_2_code
def yX6_readRealm : MethodName := ⟨RX6, "readRealm", "(LFoldedRealm$Realm;)I"⟩
abbrev cX6_readWriter : ByteArray := prog_8_method_3_code
def yX6_readWriter : MethodName := ⟨RX6, "readWriter", "(LFoldedRealm$Realm;)Z"⟩
abbrev cX6_kindTold : ByteArray := prog_8_method_4_code
def yX6_kindTold : MethodName := ⟨RX6, "kindTold", "()I"⟩
abbrev cX6_readWord : ByteArray := prog_8_method_5_code
def yX6_readWord : MethodName := ⟨RX6, "readWord", "(LFoldedRealm$Realm;)Z"⟩
abbrev cX6_readEntry : ByteArray := prog_8_method_6_code
def yX6_readEntry : MethodName := ⟨RX6, "readEntry", "(LFoldedRealm$Sort;I[II)Z"⟩
abbrev cX6_readLikes : ByteArray := prog_8_method_7_code
def yX6_readLikes : MethodName := ⟨RX6, "readLikes", "(LFoldedRealm$Realm;)Z"⟩
abbrev cX6_readClash : ByteArray := prog_8_method_8_code
def yX6_readClash : MethodName := ⟨RX6, "readClash", "(LFoldedRealm$Realm;)Z"⟩
abbrev cX6_readFolds : ByteArray := prog_8_method_9_code
def yX6_readFolds : MethodName := ⟨RX6, "readFolds", "(LFoldedRealm$Realm;)Z"⟩
abbrev cX6_readFormula : ByteArray := prog_8_method_10_code
def yX6_readFormula : MethodName := ⟨RX6, "readFormula", "(LFoldedRealm$Realm;LFoldedRealm$Formula;)Z"⟩
abbrev cX6_readSundays : ByteArray := prog_8_method_11_code
def yX6_readSundays : MethodName := ⟨RX6, "readSundays", "(LFoldedRealm$Realm;)I"⟩
abbrev cX6_readSundayLine : ByteArray := prog_8_method_12_code
def yX6_readSundayLine : MethodName := ⟨RX6, "readSundayLine", "(LFoldedRealm$Realm;)Z"⟩
abbrev cX6_failAtName : ByteArray := prog_8_method_13_code
def yX6_failAtName : MethodName := ⟨RX6, "failAtName", "()Z"⟩
abbrev cX6_isNewName : ByteArray := prog_8_method_14_code
def yX6_isNewName : MethodName := ⟨RX6, "isNewName", "(LFoldedRealm$Realm;)Z"⟩
abbrev cX6_isNumber : ByteArray := prog_8_method_15_code
def yX6_isNumber : MethodName := ⟨RX6, "isNumber", "(II)Z"⟩
def RX7 : String := "FoldedRealm$Realm"
def TX7 : u_T := fun k => match k with
  | 0 => ("FoldedRealm$Realm", "writers", "I", false)
  | 1 => ("FoldedRealm$Realm", "kind", "[I", true)
  | 2 => ("FoldedRealm$Realm", "writerName", "[J", true)
  | 3 => ("FoldedRealm$Realm", "words", "I", false)
  | 4 => ("FoldedRealm$Realm", "fold", "[I", true)
  | 5 => ("FoldedRealm$Realm", "weight", "[I", true)
  | 6 => ("FoldedRealm$Realm", "good", "[I", true)
  | 7 => ("FoldedRealm$Realm", "left", "[I", true)
  | 8 => ("FoldedRealm$Realm", "wordName", "[J", true)
  | 9 => ("FoldedRealm$Realm", "fond", "[I", true)
  | 10 => ("FoldedRealm$Realm", "clashing", "[I", true)
  | 11 => ("FoldedRealm$Realm", "clashesTold", "I", false)
  | 12 => ("FoldedRealm$Realm", "folds", "I", false)
  | 13 => ("FoldedRealm$Realm", "foldsTold", "Z", false)
  | 14 => ("FoldedRealm$Realm", "writes", "LFoldedRealm$Formula;", true)
  | _ => ("FoldedRealm$Realm", "does", "LFoldedRealm$Formula;", true)
def tyX7 : Nat → FieldType := fun k => match k with
  | 0 => .int
  | 1 => .array .int
  | 2 => .array .long
  | 3 => .int
  | 4 => .array .int
  | 5 => .array .int
  | 6 => .array .int
  | 7 => .array .int
  | 8 => .array .long
  | 9 => .array .int
  | 10 => .array .int
  | 11 => .int
  | 12 => .int
  | 13 => .boolean
  | 14 => .object "FoldedRealm$Formula"
  | _ => .object "FoldedRealm$Formula"
abbrev wsX70 : List Cond := u_ws RX7 TX7 16
theorem nmX7 : ∀ a, a < 16 → ∀ b, b < 16 → a ≠ b → (TX7 a).2.1 ≠ (TX7 b).2.1 := by decide +kernel
theorem tyX7_ok : ∀ k, k < 16 → parseFieldDescriptor (TX7 k).2.2.1 = some (tyX7 k) := by decide +kernel
abbrev cX7_init : ByteArray := prog_9_method_1_code
def yX7_init : MethodName := ⟨RX7, "<init>", "()V"⟩
abbrev cX7_clear : ByteArray := prog_9_method_2_code
def yX7_clear : MethodName := ⟨RX7, "clear", "()V"⟩
abbrev cX7_hasWriter : ByteArray := prog_9_method_3_code
def yX7_hasWriter : MethodName := ⟨RX7, "hasWriter", "(I)Z"⟩
abbrev cX7_hasWord : ByteArray := prog_9_method_4_code
def yX7_hasWord : MethodName := ⟨RX7, "hasWord", "(I)Z"⟩
abbrev cX7_foldOf : ByteArray := prog_9_method_5_code
def yX7_foldOf : MethodName := ⟨RX7, "foldOf", "(I)I"⟩
abbrev cX7_isWritten : ByteArray := prog_9_method_6_code
def yX7_isWritten : MethodName := ⟨RX7, "isWritten", "(I)Z"⟩
abbrev cX7_goodOfWord : ByteArray := prog_9_method_7_code
def yX7_goodOfWord : MethodName := ⟨RX7, "goodOfWord", "(I)I"⟩
abbrev cX7_kindOf : ByteArray := prog_9_method_8_code
def yX7_kindOf : MethodName := ⟨RX7, "kindOf", "(I)I"⟩
abbrev cX7_fondness : ByteArray := prog_9_method_9_code
def yX7_fondness : MethodName := ⟨RX7, "fondness", "(II)I"⟩
abbrev cX7_setFondness : ByteArray := prog_9_method_10_code
def yX7_setFondness : MethodName := ⟨RX7, "setFondness", "(III)V"⟩
abbrev cX7_findWriter : ByteArray := prog_9_method_11_code
def yX7_findWriter : MethodName := ⟨RX7, "findWriter", "(J)I"⟩
abbrev cX7_findWord : ByteArray := prog_9_method_12_code
def yX7_findWord : MethodName := ⟨RX7, "findWord", "(J)I"⟩
abbrev cX7_doClash : ByteArray := prog_9_method_13_code
def yX7_doClash : MethodName := ⟨RX7, "doClash", "(II)Z"⟩
abbrev cX7_setClash : ByteArray := prog_9_method_14_code
def yX7_setClash : MethodName := ⟨RX7, "setClash", "(II)V"⟩
abbrev cX7_bitsOfFold : ByteArray := prog_9_method_15_code
def yX7_bitsOfFold : MethodName := ⟨RX7, "bitsOfFold", "(I)I"⟩
abbrev cX7_wordOfFold : ByteArray := prog_9_method_16_code
def yX7_wordOfFold : MethodName := ⟨RX7, "wordOfFold", "(II)I"⟩
abbrev cX7_isRow : ByteArray := prog_9_method_17_code
def yX7_isRow : MethodName := ⟨RX7, "isRow", "(II)Z"⟩
abbrev cX7_writerAt : ByteArray := prog_9_method_18_code
def yX7_writerAt : MethodName := ⟨RX7, "writerAt", "(II)I"⟩
abbrev cX7_seatBehind : ByteArray := prog_9_method_19_code
def yX7_seatBehind : MethodName := ⟨RX7, "seatBehind", "(I)I"⟩
abbrev cX7_likely : ByteArray := prog_9_method_20_code
def yX7_likely : MethodName := ⟨RX7, "likely", "(IIII)I"⟩
abbrev cX7_goodOf : ByteArray := prog_9_method_21_code
def yX7_goodOf : MethodName := ⟨RX7, "goodOf", "([III)I"⟩
def RX8 : String := "FoldedRealm$Shares"
def TX8 : u_T := fun k => match k with
  | _ => ("FoldedRealm$Shares", "has", "[I", true)
def tyX8 : Nat → FieldType := fun k => match k with
  | _ => .array .int
abbrev wsX80 : List Cond := u_ws RX8 TX8 1
theorem nmX8 : ∀ a, a < 1 → ∀ b, b < 1 → a ≠ b → (TX8 a).2.1 ≠ (TX8 b).2.1 := by decide +kernel
theorem tyX8_ok : ∀ k, k < 1 → parseFieldDescriptor (TX8 k).2.2.1 = some (tyX8 k) := by decide +kernel
abbrev cX8_init : ByteArray := prog_10_method_1_code
def yX8_init : MethodName := ⟨RX8, "<init>", "()V"⟩
abbrev cX8_of : ByteArray := prog_10_method_2_code
def yX8_of : MethodName := ⟨RX8, "of", "(I)I"⟩
abbrev cX8_atLast : ByteArray := prog_10_method_3_code
def yX8_atLast : MethodName := ⟨RX8, "atLast", "(LFoldedRealm$Realm;)I"⟩
abbrev cX8_pour : ByteArray := prog_10_method_4_code
def yX8_pour : MethodName := ⟨RX8, "pour", "(LFoldedRealm$Realm;LFoldedRealm$Odds;I)V"⟩
abbrev cX8_pourBehind : ByteArray := prog_10_method_5_code
def yX8_pourBehind : MethodName := ⟨RX8, "pourBehind", "(LFoldedRealm$Realm;LFoldedRealm$Odds;I)V"⟩
abbrev cX8_empty : ByteArray := prog_10_method_6_code
def yX8_empty : MethodName := ⟨RX8, "empty", "()V"⟩
abbrev cX8_flow : ByteArray := prog_10_method_7_code
def yX8_flow : MethodName := ⟨RX8, "flow", "(LFoldedRealm$Realm;LFoldedRealm$Odds;I)V"⟩
abbrev cX8_share : ByteArray := prog_10_method_8_code
def yX8_share : MethodName := ⟨RX8, "share", "(LFoldedRealm$Realm;LFoldedRealm$Odds;III)V"⟩
abbrev cX8_keepAlone : ByteArray := prog_10_method_9_code
def yX8_keepAlone : MethodName := ⟨RX8, "keepAlone", "(LFoldedRealm$Realm;II)V"⟩
def RX9 : String := "FoldedRealm$Sort"
def TX9 : u_T := fun k => match k with
  | _ => ("", "", "", false)
def tyX9 : Nat → FieldType := fun k => match k with
  | _ => .int
abbrev wsX90 : List Cond := u_ws RX9 TX9 0
theorem nmX9 : ∀ a, a < 0 → ∀ b, b < 0 → a ≠ b → (TX9 a).2.1 ≠ (TX9 b).2.1 := by decide +kernel
theorem tyX9_ok : ∀ k, k < 0 → parseFieldDescriptor (TX9 k).2.2.1 = some (tyX9 k) := by decide +kernel
def RX10 : String := "FoldedRealm$Standing"
def TX10 : u_T := fun k => match k with
  | 0 => ("FoldedRealm$Standing", "left", "[I", true)
  | 1 => ("FoldedRealm$Standing", "strip", "[I", true)
  | 2 => ("FoldedRealm$Standing", "spike", "[I", true)
  | 3 => ("FoldedRealm$Standing", "written", "I", false)
  | 4 => ("FoldedRealm$Standing", "seat", "I", false)
  | 5 => ("FoldedRealm$Standing", "wholes", "I", false)
  | _ => ("FoldedRealm$Standing", "good", "I", false)
def tyX10 : Nat → FieldType := fun k => match k with
  | 0 => .array .int
  | 1 => .array .int
  | 2 => .array .int
  | 3 => .int
  | 4 => .int
  | 5 => .int
  | _ => .int
abbrev wsX100 : List Cond := u_ws RX10 TX10 7
theorem nmX10 : ∀ a, a < 7 → ∀ b, b < 7 → a ≠ b → (TX10 a).2.1 ≠ (TX10 b).2.1 := by decide +kernel
theorem tyX10_ok : ∀ k, k < 7 → parseFieldDescriptor (TX10 k).2.2.1 = some (tyX10 k) := by decide +kernel
abbrev cX10_init : ByteArray := prog_12_method_1_code
def yX10_init : MethodName := ⟨RX10, "<init>", "()V"⟩
abbrev cX10_begin : ByteArray := prog_12_method_2_code
def yX10_begin : MethodName := ⟨RX10, "begin", "(LFoldedRealm$Realm;)V"⟩
abbrev cX10_copyFrom : ByteArray := prog_12_method_3_code
def yX10_copyFrom : MethodName := ⟨RX10, "copyFrom", "(LFoldedRealm$Standing;)V"⟩
abbrev cX10_stripAt : ByteArray := prog_12_method_4_code
def yX10_stripAt : MethodName := ⟨RX10, "stripAt", "(I)I"⟩
abbrev cX10_hasWhole : ByteArray := prog_12_method_5_code
def yX10_hasWhole : MethodName := ⟨RX10, "hasWhole", "(I)Z"⟩
abbrev cX10_spikeAt : ByteArray := prog_12_method_6_code
def yX10_spikeAt : MethodName := ⟨RX10, "spikeAt", "(II)I"⟩
abbrev cX10_leftOf : ByteArray := prog_12_method_7_code
def yX10_leftOf : MethodName := ⟨RX10, "leftOf", "(I)I"⟩
abbrev cX10_leftTogether : ByteArray := prog_12_method_8_code
def yX10_leftTogether : MethodName := ⟨RX10, "leftTogether", "(LFoldedRealm$Realm;)I"⟩
abbrev cX10_canPut : ByteArray := prog_12_method_9_code
def yX10_canPut : MethodName := ⟨RX10, "canPut", "(LFoldedRealm$Realm;I)Z"⟩
abbrev cX10_put : ByteArray := prog_12_method_10_code
def yX10_put : MethodName := ⟨RX10, "put", "(LFoldedRealm$Realm;I)V"⟩
abbrev cX10_putOnSpike : ByteArray := prog_12_method_11_code
def yX10_putOnSpike : MethodName := ⟨RX10, "putOnSpike", "()V"⟩
abbrev cX10_closeGap : ByteArray := prog_12_method_12_code
def yX10_closeGap : MethodName := ⟨RX10, "closeGap", "(I)V"⟩
abbrev cX10_canMoveSeat : ByteArray := prog_12_method_13_code
def yX10_canMoveSeat : MethodName := ⟨RX10, "canMoveSeat", "(LFoldedRealm$Realm;)Z"⟩
abbrev cX10_moveSeat : ByteArray := prog_12_method_14_code
def yX10_moveSeat : MethodName := ⟨RX10, "moveSeat", "(LFoldedRealm$Realm;)V"⟩
abbrev cX10_takeDown : ByteArray := prog_12_method_15_code
def yX10_takeDown : MethodName := ⟨RX10, "takeDown", "(LFoldedRealm$Realm;I)V"⟩
abbrev cX10_follow : ByteArray := prog_12_method_16_code
def yX10_follow : MethodName := ⟨RX10, "follow", "(LFoldedRealm$Realm;I)Z"⟩
abbrev cX10_cameBy : ByteArray := prog_12_method_17_code
def yX10_cameBy : MethodName := ⟨RX10, "cameBy", "(I)Z"⟩
abbrev cX10_lastClashes : ByteArray := prog_12_method_18_code
def yX10_lastClashes : MethodName := ⟨RX10, "lastClashes", "(LFoldedRealm$Realm;)Z"⟩
abbrev cX10_areClashing : ByteArray := prog_12_method_19_code
def yX10_areClashing : MethodName := ⟨RX10, "areClashing", "(LFoldedRealm$Realm;II)Z"⟩
abbrev cX10_foesOf : ByteArray := prog_12_method_20_code
def yX10_foesOf : MethodName := ⟨RX10, "foesOf", "(LFoldedRealm$Realm;I)I"⟩
abbrev cX10_clashCount : ByteArray := prog_12_method_21_code
def yX10_clashCount : MethodName := ⟨RX10, "clashCount", "(LFoldedRealm$Realm;)I"⟩
def RX11 : String := "FoldedRealm$Tokens"
def TX11 : u_T := fun k => match k with
  | 0 => ("FoldedRealm$Tokens", "signs", "[B", true)
  | 1 => ("FoldedRealm$Tokens", "length", "I", false)
  | 2 => ("FoldedRealm$Tokens", "next", "I", false)
  | 3 => ("FoldedRealm$Tokens", "place", "I", false)
  | 4 => ("FoldedRealm$Tokens", "sort", "LFoldedRealm$Sort;", false)
  | 5 => ("FoldedRealm$Tokens", "number", "I", false)
  | 6 => ("FoldedRealm$Tokens", "name", "J", false)
  | _ => ("FoldedRealm$Tokens", "fault", "I", false)
def tyX11 : Nat → FieldType := fun k => match k with
  | 0 => .array .byte
  | 1 => .int
  | 2 => .int
  | 3 => .int
  | 4 => .object "FoldedRealm$Sort"
  | 5 => .int
  | 6 => .long
  | _ => .int
abbrev wsX110 : List Cond := u_ws RX11 TX11 8
theorem nmX11 : ∀ a, a < 8 → ∀ b, b < 8 → a ≠ b → (TX11 a).2.1 ≠ (TX11 b).2.1 := by decide +kernel
theorem tyX11_ok : ∀ k, k < 8 → parseFieldDescriptor (TX11 k).2.2.1 = some (tyX11 k) := by decide +kernel
abbrev cX11_init : ByteArray := prog_13_method_1_code
def yX11_init : MethodName := ⟨RX11, "<init>", "()V"⟩
abbrev cX11_append : ByteArray := prog_13_method_2_code
def yX11_append : MethodName := ⟨RX11, "append", "(J)V"⟩
abbrev cX11_takeOff : ByteArray := prog_13_method_3_code
def yX11_takeOff : MethodName := ⟨RX11, "takeOff", "()V"⟩
abbrev cX11_begin : ByteArray := prog_13_method_4_code
def yX11_begin : MethodName := ⟨RX11, "begin", "()V"⟩
abbrev cX11_fail : ByteArray := prog_13_method_5_code
def yX11_fail : MethodName := ⟨RX11, "fail", "(I)Z"⟩
abbrev cX11_is : ByteArray := prog_13_method_6_code
def yX11_is : MethodName := ⟨RX11, "is", "(LFoldedRealm$Sort;)Z"⟩
abbrev cX11_skip : ByteArray := prog_13_method_7_code
def yX11_skip : MethodName := ⟨RX11, "skip", "(LFoldedRealm$Sort;)Z"⟩
abbrev cX11_step : ByteArray := prog_13_method_8_code
def yX11_step : MethodName := ⟨RX11, "step", "()V"⟩
abbrev cX11_takeLetters : ByteArray := prog_13_method_9_code
def yX11_takeLetters : MethodName := ⟨RX11, "takeLetters", "()V"⟩
abbrev cX11_takeDigits : ByteArray := prog_13_method_10_code
def yX11_takeDigits : MethodName := ⟨RX11, "takeDigits", "()V"⟩
abbrev cX11_sortTaken : ByteArray := prog_13_method_11_code
def yX11_sortTaken : MethodName := ⟨RX11, "sortTaken", "()LFoldedRealm$Sort;"⟩
abbrev cX11_hasText : ByteArray := prog_13_method_12_code
def yX11_hasText : MethodName := ⟨RX11, "hasText", "(Ljava/lang/String;)Z"⟩
abbrev cX11_isLetter : ByteArray := prog_13_method_13_code
def yX11_isLetter : MethodName := ⟨RX11, "isLetter", "(I)Z"⟩
abbrev cX11_isDigit : ByteArray := prog_13_method_14_code
def yX11_isDigit : MethodName := ⟨RX11, "isDigit", "(I)Z"⟩
def RX12 : String := "FoldedRealm"
def TX12 : u_T := fun k => match k with
  | 0 => ("FoldedRealm", "tokens", "LFoldedRealm$Tokens;", true)
  | 1 => ("FoldedRealm", "reader", "LFoldedRealm$Reader;", true)
  | 2 => ("FoldedRealm", "realm", "LFoldedRealm$Realm;", false)
  | 3 => ("FoldedRealm", "draft", "LFoldedRealm$Realm;", false)
  | 4 => ("FoldedRealm", "page", "LFoldedRealm$Page;", true)
  | 5 => ("FoldedRealm", "marks", "[LFoldedRealm$Page;", true)
  | 6 => ("FoldedRealm", "history", "LFoldedRealm$History;", true)
  | 7 => ("FoldedRealm", "trial", "LFoldedRealm$Standing;", true)
  | 8 => ("FoldedRealm", "odds", "LFoldedRealm$Odds;", true)
  | 9 => ("FoldedRealm", "shares", "LFoldedRealm$Shares;", true)
  | 10 => ("FoldedRealm", "seatShares", "[I", true)
  | _ => ("FoldedRealm", "foes", "[I", true)
def tyX12 : Nat → FieldType := fun k => match k with
  | 0 => .object "FoldedRealm$Tokens"
  | 1 => .object "FoldedRealm$Reader"
  | 2 => .object "FoldedRealm$Realm"
  | 3 => .object "FoldedRealm$Realm"
  | 4 => .object "FoldedRealm$Page"
  | 5 => .array (.object "FoldedRealm$Page")
  | 6 => .object "FoldedRealm$History"
  | 7 => .object "FoldedRealm$Standing"
  | 8 => .object "FoldedRealm$Odds"
  | 9 => .object "FoldedRealm$Shares"
  | 10 => .array .int
  | _ => .array .int
abbrev wsX120 : List Cond := u_ws RX12 TX12 12
theorem nmX12 : ∀ a, a < 12 → ∀ b, b < 12 → a ≠ b → (TX12 a).2.1 ≠ (TX12 b).2.1 := by decide +kernel
theorem tyX12_ok : ∀ k, k < 12 → parseFieldDescriptor (TX12 k).2.2.1 = some (tyX12 k) := by decide +kernel
abbrev cX12_init : ByteArray := prog_1_method_1_code
def yX12_init : MethodName := ⟨RX12, "<init>", "()V"⟩
abbrev cX12_feed : ByteArray := prog_1_method_2_code
def yX12_feed : MethodName := ⟨RX12, "feed", "(JJJ)I"⟩
abbrev cX12_realm : ByteArray := prog_1_method_3_code
def yX12_realm : MethodName := ⟨RX12, "realm", "()I"⟩
abbrev cX12_sundays : ByteArray := prog_1_method_4_code
def yX12_sundays : MethodName := ⟨RX12, "sundays", "()I"⟩
abbrev cX12_writer : ByteArray := prog_1_method_5_code
def yX12_writer : MethodName := ⟨RX12, "writer", "(II)I"⟩
abbrev cX12_word : ByteArray := prog_1_method_6_code
def yX12_word : MethodName := ⟨RX12, "word", "(II)I"⟩
abbrev cX12_likelyNow : ByteArray := prog_1_method_7_code
def yX12_likelyNow : MethodName := ⟨RX12, "likelyNow", "(I)I"⟩
abbrev cX12_strip : ByteArray := prog_1_method_8_code
def yX12_strip : MethodName := ⟨RX12, "strip", "(I)I"⟩
abbrev cX12_spike : ByteArray := prog_1_method_9_code
def yX12_spike : MethodName := ⟨RX12, "spike", "(II)I"⟩
abbrev cX12_write : ByteArray := prog_1_method_10_code
def yX12_write : MethodName := ⟨RX12, "write", "(I)I"⟩
abbrev cX12_pass : ByteArray := prog_1_method_11_code
def yX12_pass : MethodName := ⟨RX12, "pass", "()I"⟩
abbrev cX12_burn : ByteArray := prog_1_method_12_code
def yX12_burn : MethodName := ⟨RX12, "burn", "(I)I"⟩
abbrev cX12_undo : ByteArray := prog_1_method_13_code
def yX12_undo : MethodName := ⟨RX12, "undo", "()Z"⟩
abbrev cX12_judged : ByteArray := prog_1_method_14_code
def yX12_judged : MethodName := ⟨RX12, "judged", "(I)I"⟩
abbrev cX12_comes : ByteArray := prog_1_method_15_code
def yX12_comes : MethodName := ⟨RX12, "comes", "(I)I"⟩
abbrev cX12_best : ByteArray := prog_1_method_16_code
def yX12_best : MethodName := ⟨RX12, "best", "(I)I"⟩
abbrev cX12_worst : ByteArray := prog_1_method_17_code
def yX12_worst : MethodName := ⟨RX12, "worst", "()I"⟩
abbrev cX12_mean : ByteArray := prog_1_method_18_code
def yX12_mean : MethodName := ⟨RX12, "mean", "()I"⟩
abbrev cX12_aim : ByteArray := prog_1_method_19_code
def yX12_aim : MethodName := ⟨RX12, "aim", "(II)I"⟩
abbrev cX12_meet : ByteArray := prog_1_method_20_code
def yX12_meet : MethodName := ⟨RX12, "meet", "(III)I"⟩
abbrev cX12_sharedBy : ByteArray := prog_1_method_21_code
def yX12_sharedBy : MethodName := ⟨RX12, "sharedBy", "(II)I"⟩
abbrev cX12_clashes : ByteArray := prog_1_method_22_code
def yX12_clashes : MethodName := ⟨RX12, "clashes", "()I"⟩
abbrev cX12_fire : ByteArray := prog_1_method_23_code
def yX12_fire : MethodName := ⟨RX12, "fire", "()I"⟩
abbrev cX12_isPeaceWithout : ByteArray := prog_1_method_24_code
def yX12_isPeaceWithout : MethodName := ⟨RX12, "isPeaceWithout", "(I)Z"⟩
abbrev cX12_read : ByteArray := prog_1_method_25_code
def yX12_read : MethodName := ⟨RX12, "read", "(I)Z"⟩
abbrev cX12_began : ByteArray := prog_1_method_26_code
def yX12_began : MethodName := ⟨RX12, "began", "()I"⟩
abbrev cX12_sure : ByteArray := prog_1_method_27_code
def yX12_sure : MethodName := ⟨RX12, "sure", "()I"⟩
abbrev cX12_ask : ByteArray := prog_1_method_28_code
def yX12_ask : MethodName := ⟨RX12, "ask", "()I"⟩
abbrev cX12_likeliestBy : ByteArray := prog_1_method_29_code
def yX12_likeliestBy : MethodName := ⟨RX12, "likeliestBy", "(II)I"⟩
abbrev cX12_spent : ByteArray := prog_1_method_30_code
def yX12_spent : MethodName := ⟨RX12, "spent", "()I"⟩
abbrev cX12_rests : ByteArray := prog_1_method_31_code
def yX12_rests : MethodName := ⟨RX12, "rests", "(IIII)I"⟩
abbrev cX12_isPrize : ByteArray := prog_1_method_32_code
def yX12_isPrize : MethodName := ⟨RX12, "isPrize", "(I)Z"⟩
abbrev cX12_prize : ByteArray := prog_1_method_33_code
def yX12_prize : MethodName := ⟨RX12, "prize", "(IIIII)I"⟩
abbrev cX12_generations : ByteArray := prog_1_method_34_code
def yX12_generations : MethodName := ⟨RX12, "generations", "(III)I"⟩
abbrev cX12_mark : ByteArray := prog_1_method_35_code
def yX12_mark : MethodName := ⟨RX12, "mark", "(IZ)Z"⟩
abbrev cX12_count : ByteArray := prog_1_method_36_code
def yX12_count : MethodName := ⟨RX12, "count", "(I)I"⟩
def RX13 : String := "FoldedRealmModel"
def TX13 : u_T := fun k => match k with
  | 0 => ("FoldedRealmModel", "thrown", "I", false)
  | 1 => ("FoldedRealmModel", "taped", "I", false)
  | 2 => ("FoldedRealmModel", "tape", "[I", true)
  | 3 => ("FoldedRealmModel", "size", "I", false)
  | 4 => ("FoldedRealmModel", "place", "I", false)
  | 5 => ("FoldedRealmModel", "begin", "I", false)
  | 6 => ("FoldedRealmModel", "token", "I", false)
  | 7 => ("FoldedRealmModel", "word", "J", false)
  | 8 => ("FoldedRealmModel", "told", "I", false)
  | 9 => ("FoldedRealmModel", "wrong", "I", false)
  | 10 => ("FoldedRealmModel", "realm", "[I", true)
  | 11 => ("FoldedRealmModel", "writerName", "[J", true)
  | 12 => ("FoldedRealmModel", "wordName", "[J", true)
  | 13 => ("FoldedRealmModel", "kind", "[I", true)
  | 14 => ("FoldedRealmModel", "fold", "[I", true)
  | 15 => ("FoldedRealmModel", "weight", "[I", true)
  | 16 => ("FoldedRealmModel", "good", "[I", true)
  | 17 => ("FoldedRealmModel", "leftTold", "[I", true)
  | 18 => ("FoldedRealmModel", "likes", "[I", true)
  | 19 => ("FoldedRealmModel", "clashes", "[I", true)
  | 20 => ("FoldedRealmModel", "lineFrom", "[I", true)
  | 21 => ("FoldedRealmModel", "lineTo", "[I", true)
  | 22 => ("FoldedRealmModel", "codes", "[I", true)
  | 23 => ("FoldedRealmModel", "code", "I", false)
  | 24 => ("FoldedRealmModel", "lawLine", "I", false)
  | 25 => ("FoldedRealmModel", "isFolds", "Z", false)
  | 26 => ("FoldedRealmModel", "opened", "[I", true)
  | 27 => ("FoldedRealmModel", "compared", "[Z", true)
  | 28 => ("FoldedRealmModel", "kept", "[I", true)
  | 29 => ("FoldedRealmModel", "keptBy", "[I", true)
  | 30 => ("FoldedRealmModel", "ahead", "[I", true)
  | 31 => ("FoldedRealmModel", "against", "[I", true)
  | 32 => ("FoldedRealmModel", "sum", "[I", true)
  | 33 => ("FoldedRealmModel", "sumBy", "[I", true)
  | 34 => ("FoldedRealmModel", "term", "[I", true)
  | 35 => ("FoldedRealmModel", "termBy", "[I", true)
  | 36 => ("FoldedRealmModel", "byNot", "[I", true)
  | 37 => ("FoldedRealmModel", "valueOf", "[I", true)
  | 38 => ("FoldedRealmModel", "given", "I", false)
  | 39 => ("FoldedRealmModel", "fresh", "J", false)
  | 40 => ("FoldedRealmModel", "lines", "[I", true)
  | 41 => ("FoldedRealmModel", "lineWhat", "[I", true)
  | 42 => ("FoldedRealmModel", "lineN", "[I", true)
  | 43 => ("FoldedRealmModel", "reads0", "[I", true)
  | 44 => ("FoldedRealmModel", "readWord", "[I", true)
  | 45 => ("FoldedRealmModel", "s", "[I", true)
  | 46 => ("FoldedRealmModel", "aside", "[I", true)
  | 47 => ("FoldedRealmModel", "marked", "[I", true)
  | 48 => ("FoldedRealmModel", "undone", "[I", true)
  | 49 => ("FoldedRealmModel", "isLaid", "[Z", true)
  | 50 => ("FoldedRealmModel", "done", "I", false)
  | 51 => ("FoldedRealmModel", "goodCame", "I", false)
  | 52 => ("FoldedRealmModel", "above", "J", false)
  | 53 => ("FoldedRealmModel", "below", "J", false)
  | 54 => ("FoldedRealmModel", "row", "[I", true)
  | 55 => ("FoldedRealmModel", "bestRow", "[I", true)
  | 56 => ("FoldedRealmModel", "bestAbove", "J", false)
  | 57 => ("FoldedRealmModel", "bestBelow", "J", false)
  | 58 => ("FoldedRealmModel", "worstDoes", "I", false)
  | 59 => ("FoldedRealmModel", "meanDoes", "J", false)
  | 60 => ("FoldedRealmModel", "share", "[I", true)
  | 61 => ("FoldedRealmModel", "onlyAt", "[I", true)
  | _ => ("FoldedRealmModel", "g", "J", false)
def tyX13 : Nat → FieldType := fun k => match k with
  | 0 => .int
  | 1 => .int
  | 2 => .array .int
  | 3 => .int
  | 4 => .int
  | 5 => .int
  | 6 => .int
  | 7 => .long
  | 8 => .int
  | 9 => .int
  | 10 => .array .int
  | 11 => .array .long
  | 12 => .array .long
  | 13 => .array .int
  | 14 => .array .int
  | 15 => .array .int
  | 16 => .array .int
  | 17 => .array .int
  | 18 => .array .int
  | 19 => .array .int
  | 20 => .array .int
  | 21 => .array .int
  | 22 => .array .int
  | 23 => .int
  | 24 => .int
  | 25 => .boolean
  | 26 => .array .int
  | 27 => .array .boolean
  | 28 => .array .int
  | 29 => .array .int
  | 30 => .array .int
  | 31 => .array .int
  | 32 => .array .int
  | 33 => .array .int
  | 34 => .array .int
  | 35 => .array .int
  | 36 => .array .int
  | 37 => .array .int
  | 38 => .int
  | 39 => .long
  | 40 => .array .int
  | 41 => .array .int
  | 42 => .array .int
  | 43 => .array .int
  | 44 => .array .int
  | 45 => .array .int
  | 46 => .array .int
  | 47 => .array .int
  | 48 => .array .int
  | 49 => .array .boolean
  | 50 => .int
  | 51 => .int
  | 52 => .long
  | 53 => .long
  | 54 => .array .int
  | 55 => .array .int
  | 56 => .long
  | 57 => .long
  | 58 => .int
  | 59 => .long
  | 60 => .array .int
  | 61 => .array .int
  | _ => .long
abbrev wsX130 : List Cond := u_ws RX13 TX13 63
theorem nmX13 : ∀ a, a < 63 → ∀ b, b < 63 → a ≠ b → (TX13 a).2.1 ≠ (TX13 b).2.1 := by decide +kernel
theorem tyX13_ok : ∀ k, k < 63 → parseFieldDescriptor (TX13 k).2.2.1 = some (tyX13 k) := by decide +kernel
abbrev cX13_init : ByteArray := prog_15_method_1_code
def yX13_init : MethodName := ⟨RX13, "<init>", "()V"⟩
abbrev cX13_thrown : ByteArray := prog_15_method_2_code
def yX13_thrown : MethodName := ⟨RX13, "thrown", "()I"⟩
abbrev cX13_within : ByteArray := prog_15_method_3_code
def yX13_within : MethodName := ⟨RX13, "within", "(III)Z"⟩
abbrev cX13_between : ByteArray := prog_15_method_4_code
def yX13_between : MethodName := ⟨RX13, "between", "(III)I"⟩
abbrev cX13_bits : ByteArray := prog_15_method_5_code
def yX13_bits : MethodName := ⟨RX13, "bits", "(I)I"⟩
abbrev cX13_feed : ByteArray := prog_15_method_6_code
def yX13_feed : MethodName := ⟨RX13, "feed", "(JJJ)I"⟩
abbrev cX13_signAt : ByteArray := prog_15_method_7_code
def yX13_signAt : MethodName := ⟨RX13, "signAt", "(I)I"⟩
abbrev cX13_nextToken : ByteArray := prog_15_method_8_code
def yX13_nextToken : MethodName := ⟨RX13, "nextToken", "()V"⟩
abbrev cX13_isWord : ByteArray := prog_15_method_9_code
def yX13_isWord : MethodName := ⟨RX13, "isWord", "(J)Z"⟩
abbrev cX13_isSign : ByteArray := prog_15_method_10_code
def yX13_isSign : MethodName := ⟨RX13, "isSign", "(I)Z"⟩
abbrev cX13_fails : ByteArray := prog_15_method_11_code
def yX13_fails : MethodName := ⟨RX13, "fails", "(I)Z"⟩
abbrev cX13_puts : ByteArray := prog_15_method_12_code
def yX13_puts : MethodName := ⟨RX13, "puts", "(I)V"⟩
abbrev cX13_fact : ByteArray := prog_15_method_13_code
def yX13_fact : MethodName := ⟨RX13, "fact", "()I"⟩
abbrev cX13_reads : ByteArray := prog_15_method_14_code
def yX13_reads : MethodName := ⟨RX13, "reads", "()Z"⟩
abbrev cX13_opens : ByteArray := prog_15_method_15_code
def yX13_opens : MethodName := ⟨RX13, "opens", "(I)V"⟩
abbrev cX13_sums : ByteArray := prog_15_method_16_code
def yX13_sums : MethodName := ⟨RX13, "sums", "(I)V"⟩
abbrev cX13_tests : ByteArray := prog_15_method_17_code
def yX13_tests : MethodName := ⟨RX13, "tests", "(I)V"⟩
abbrev cX13_worked : ByteArray := prog_15_method_18_code
def yX13_worked : MethodName := ⟨RX13, "worked", "(I)I"⟩
abbrev cX13_isKept : ByteArray := prog_15_method_19_code
def yX13_isKept : MethodName := ⟨RX13, "isKept", "()Z"⟩
abbrev cX13_writerNamed : ByteArray := prog_15_method_20_code
def yX13_writerNamed : MethodName := ⟨RX13, "writerNamed", "()I"⟩
abbrev cX13_wordNamed : ByteArray := prog_15_method_21_code
def yX13_wordNamed : MethodName := ⟨RX13, "wordNamed", "(I)I"⟩
abbrev cX13_needsNumber : ByteArray := prog_15_method_22_code
def yX13_needsNumber : MethodName := ⟨RX13, "needsNumber", "(II)Z"⟩
abbrev cX13_needsBoth : ByteArray := prog_15_method_23_code
def yX13_needsBoth : MethodName := ⟨RX13, "needsBoth", "(JII)Z"⟩
abbrev cX13_closes : ByteArray := prog_15_method_24_code
def yX13_closes : MethodName := ⟨RX13, "closes", "()Z"⟩
abbrev cX13_needsNew : ByteArray := prog_15_method_25_code
def yX13_needsNew : MethodName := ⟨RX13, "needsNew", "()Z"⟩
abbrev cX13_needsToldWord : ByteArray := prog_15_method_26_code
def yX13_needsToldWord : MethodName := ⟨RX13, "needsToldWord", "(I)Z"⟩
abbrev cX13_readsWriter : ByteArray := prog_15_method_27_code
def yX13_readsWriter : MethodName := ⟨RX13, "readsWriter", "()Z"⟩
abbrev cX13_readsWord : ByteArray := prog_15_method_28_code
def yX13_readsWord : MethodName := ⟨RX13, "readsWord", "()Z"⟩
abbrev cX13_readsLikes : ByteArray := prog_15_method_29_code
def yX13_readsLikes : MethodName := ⟨RX13, "readsLikes", "()Z"⟩
abbrev cX13_readsClash : ByteArray := prog_15_method_30_code
def yX13_readsClash : MethodName := ⟨RX13, "readsClash", "()Z"⟩
abbrev cX13_readsFolds : ByteArray := prog_15_method_31_code
def yX13_readsFolds : MethodName := ⟨RX13, "readsFolds", "()Z"⟩
abbrev cX13_readsLaw : ByteArray := prog_15_method_32_code
def yX13_readsLaw : MethodName := ⟨RX13, "readsLaw", "(I)Z"⟩
abbrev cX13_begins : ByteArray := prog_15_method_33_code
def yX13_begins : MethodName := ⟨RX13, "begins", "()V"⟩
abbrev cX13_readsAll : ByteArray := prog_15_method_34_code
def yX13_readsAll : MethodName := ⟨RX13, "readsAll", "()Z"⟩
abbrev cX13_shifts : ByteArray := prog_15_method_35_code
def yX13_shifts : MethodName := ⟨RX13, "shifts", "([II)V"⟩
abbrev cX13_lays : ByteArray := prog_15_method_36_code
def yX13_lays : MethodName := ⟨RX13, "lays", "()V"⟩
abbrev cX13_copies : ByteArray := prog_15_method_37_code
def yX13_copies : MethodName := ⟨RX13, "copies", "([II[II)V"⟩
abbrev cX13_readsLine : ByteArray := prog_15_method_38_code
def yX13_readsLine : MethodName := ⟨RX13, "readsLine", "()Z"⟩
abbrev cX13_laysLines : ByteArray := prog_15_method_39_code
def yX13_laysLines : MethodName := ⟨RX13, "laysLines", "(II)V"⟩
abbrev cX13_laysRead : ByteArray := prog_15_method_40_code
def yX13_laysRead : MethodName := ⟨RX13, "laysRead", "(II)V"⟩
abbrev cX13_fresh : ByteArray := prog_15_method_41_code
def yX13_fresh : MethodName := ⟨RX13, "fresh", "()V"⟩
abbrev cX13_realm : ByteArray := prog_15_method_42_code
def yX13_realm : MethodName := ⟨RX13, "realm", "()I"⟩
abbrev cX13_sundays : ByteArray := prog_15_method_43_code
def yX13_sundays : MethodName := ⟨RX13, "sundays", "()I"⟩
abbrev cX13_isWriter : ByteArray := prog_15_method_44_code
def yX13_isWriter : MethodName := ⟨RX13, "isWriter", "(I)Z"⟩
abbrev cX13_isTold : ByteArray := prog_15_method_45_code
def yX13_isTold : MethodName := ⟨RX13, "isTold", "(I)Z"⟩
abbrev cX13_writerOf : ByteArray := prog_15_method_46_code
def yX13_writerOf : MethodName := ⟨RX13, "writerOf", "(II)I"⟩
abbrev cX13_likelyBy : ByteArray := prog_15_method_47_code
def yX13_likelyBy : MethodName := ⟨RX13, "likelyBy", "(III)I"⟩
abbrev cX13_aheadOf : ByteArray := prog_15_method_48_code
def yX13_aheadOf : MethodName := ⟨RX13, "aheadOf", "(I)I"⟩
abbrev cX13_likelyNow : ByteArray := prog_15_method_49_code
def yX13_likelyNow : MethodName := ⟨RX13, "likelyNow", "(I)I"⟩
abbrev cX13_allLikely : ByteArray := prog_15_method_50_code
def yX13_allLikely : MethodName := ⟨RX13, "allLikely", "(III)I"⟩
abbrev cX13_doesBy : ByteArray := prog_15_method_51_code
def yX13_doesBy : MethodName := ⟨RX13, "doesBy", "(II)I"⟩
abbrev cX13_writer : ByteArray := prog_15_method_52_code
def yX13_writer : MethodName := ⟨RX13, "writer", "(II)I"⟩
abbrev cX13_word : ByteArray := prog_15_method_53_code
def yX13_word : MethodName := ⟨RX13, "word", "(II)I"⟩
abbrev cX13_strip : ByteArray := prog_15_method_54_code
def yX13_strip : MethodName := ⟨RX13, "strip", "(I)I"⟩
abbrev cX13_spike : ByteArray := prog_15_method_55_code
def yX13_spike : MethodName := ⟨RX13, "spike", "(II)I"⟩
abbrev cX13_keeps : ByteArray := prog_15_method_56_code
def yX13_keeps : MethodName := ⟨RX13, "keeps", "()V"⟩
abbrev cX13_canWrite : ByteArray := prog_15_method_57_code
def yX13_canWrite : MethodName := ⟨RX13, "canWrite", "(I)Z"⟩
abbrev cX13_fallsOff : ByteArray := prog_15_method_58_code
def yX13_fallsOff : MethodName := ⟨RX13, "fallsOff", "(I)V"⟩
abbrev cX13_ends : ByteArray := prog_15_method_59_code
def yX13_ends : MethodName := ⟨RX13, "ends", "()V"⟩
abbrev cX13_laysWord : ByteArray := prog_15_method_60_code
def yX13_laysWord : MethodName := ⟨RX13, "laysWord", "(I)V"⟩
abbrev cX13_burns : ByteArray := prog_15_method_61_code
def yX13_burns : MethodName := ⟨RX13, "burns", "(I)V"⟩
abbrev cX13_canPass : ByteArray := prog_15_method_62_code
def yX13_canPass : MethodName := ⟨RX13, "canPass", "()Z"⟩
abbrev cX13_write : ByteArray := prog_15_method_63_code
def yX13_write : MethodName := ⟨RX13, "write", "(I)I"⟩
abbrev cX13_pass : ByteArray := prog_15_method_64_code
def yX13_pass : MethodName := ⟨RX13, "pass", "()I"⟩
abbrev cX13_burn : ByteArray := prog_15_method_65_code
def yX13_burn : MethodName := ⟨RX13, "burn", "(I)I"⟩
abbrev cX13_undo : ByteArray := prog_15_method_66_code
def yX13_undo : MethodName := ⟨RX13, "undo", "()Z"⟩
abbrev cX13_wordsOf : ByteArray := prog_15_method_67_code
def yX13_wordsOf : MethodName := ⟨RX13, "wordsOf", "(I)I"⟩
abbrev cX13_doClash : ByteArray := prog_15_method_68_code
def yX13_doClash : MethodName := ⟨RX13, "doClash", "(II)Z"⟩
abbrev cX13_clashesOf : ByteArray := prog_15_method_69_code
def yX13_clashesOf : MethodName := ⟨RX13, "clashesOf", "(I)I"⟩
abbrev cX13_allWholes : ByteArray := prog_15_method_70_code
def yX13_allWholes : MethodName := ⟨RX13, "allWholes", "()I"⟩
abbrev cX13_goes : ByteArray := prog_15_method_71_code
def yX13_goes : MethodName := ⟨RX13, "goes", "(I)Z"⟩
abbrev cX13_doesLastClash : ByteArray := prog_15_method_72_code
def yX13_doesLastClash : MethodName := ⟨RX13, "doesLastClash", "()Z"⟩
abbrev cX13_judged : ByteArray := prog_15_method_73_code
def yX13_judged : MethodName := ⟨RX13, "judged", "(I)I"⟩
abbrev cX13_goesOn : ByteArray := prog_15_method_74_code
def yX13_goesOn : MethodName := ⟨RX13, "goesOn", "(III)Z"⟩
abbrev cX13_wordIn : ByteArray := prog_15_method_75_code
def yX13_wordIn : MethodName := ⟨RX13, "wordIn", "(II)I"⟩
abbrev cX13_comes : ByteArray := prog_15_method_76_code
def yX13_comes : MethodName := ⟨RX13, "comes", "(I)I"⟩
abbrev cX13_endsRow : ByteArray := prog_15_method_77_code
def yX13_endsRow : MethodName := ⟨RX13, "endsRow", "(II)V"⟩
abbrev cX13_rows : ByteArray := prog_15_method_78_code
def yX13_rows : MethodName := ⟨RX13, "rows", "(IIII)V"⟩
abbrev cX13_laysRows : ByteArray := prog_15_method_79_code
def yX13_laysRows : MethodName := ⟨RX13, "laysRows", "()V"⟩
abbrev cX13_best : ByteArray := prog_15_method_80_code
def yX13_best : MethodName := ⟨RX13, "best", "(I)I"⟩
abbrev cX13_worst : ByteArray := prog_15_method_81_code
def yX13_worst : MethodName := ⟨RX13, "worst", "()I"⟩
abbrev cX13_mean : ByteArray := prog_15_method_82_code
def yX13_mean : MethodName := ⟨RX13, "mean", "()I"⟩
abbrev cX13_noneOnly : ByteArray := prog_15_method_83_code
def yX13_noneOnly : MethodName := ⟨RX13, "noneOnly", "()V"⟩
abbrev cX13_goesOnAt : ByteArray := prog_15_method_84_code
def yX13_goesOnAt : MethodName := ⟨RX13, "goesOnAt", "(II)Z"⟩
abbrev cX13_sharesFrom : ByteArray := prog_15_method_85_code
def yX13_sharesFrom : MethodName := ⟨RX13, "sharesFrom", "(IIII)V"⟩
abbrev cX13_sharesOut : ByteArray := prog_15_method_86_code
def yX13_sharesOut : MethodName := ⟨RX13, "sharesOut", "(III)I"⟩
abbrev cX13_aim : ByteArray := prog_15_method_87_code
def yX13_aim : MethodName := ⟨RX13, "aim", "(II)I"⟩
abbrev cX13_meet : ByteArray := prog_15_method_88_code
def yX13_meet : MethodName := ⟨RX13, "meet", "(III)I"⟩
abbrev cX13_clashes : ByteArray := prog_15_method_89_code
def yX13_clashes : MethodName := ⟨RX13, "clashes", "()I"⟩
abbrev cX13_fire : ByteArray := prog_15_method_90_code
def yX13_fire : MethodName := ⟨RX13, "fire", "()I"⟩
abbrev cX13_read : ByteArray := prog_15_method_91_code
def yX13_read : MethodName := ⟨RX13, "read", "(I)Z"⟩
abbrev cX13_laysOnly : ByteArray := prog_15_method_92_code
def yX13_laysOnly : MethodName := ⟨RX13, "laysOnly", "()Z"⟩
abbrev cX13_beganBy : ByteArray := prog_15_method_93_code
def yX13_beganBy : MethodName := ⟨RX13, "beganBy", "()I"⟩
abbrev cX13_began : ByteArray := prog_15_method_94_code
def yX13_began : MethodName := ⟨RX13, "began", "()I"⟩
abbrev cX13_sure : ByteArray := prog_15_method_95_code
def yX13_sure : MethodName := ⟨RX13, "sure", "()I"⟩
abbrev cX13_likeliest : ByteArray := prog_15_method_96_code
def yX13_likeliest : MethodName := ⟨RX13, "likeliest", "(II)I"⟩
abbrev cX13_ask : ByteArray := prog_15_method_97_code
def yX13_ask : MethodName := ⟨RX13, "ask", "()I"⟩
abbrev cX13_spent : ByteArray := prog_15_method_98_code
def yX13_spent : MethodName := ⟨RX13, "spent", "()I"⟩
abbrev cX13_getsBy : ByteArray := prog_15_method_99_code
def yX13_getsBy : MethodName := ⟨RX13, "getsBy", "(IIIII)I"⟩
abbrev cX13_rests : ByteArray := prog_15_method_100_code
def yX13_rests : MethodName := ⟨RX13, "rests", "(IIII)I"⟩
abbrev cX13_draws : ByteArray := prog_15_method_101_code
def yX13_draws : MethodName := ⟨RX13, "draws", "(I)I"⟩
abbrev cX13_livesWord : ByteArray := prog_15_method_102_code
def yX13_livesWord : MethodName := ⟨RX13, "livesWord", "()Z"⟩
abbrev cX13_generations : ByteArray := prog_15_method_103_code
def yX13_generations : MethodName := ⟨RX13, "generations", "(III)I"⟩
abbrev cX13_mark : ByteArray := prog_15_method_104_code
def yX13_mark : MethodName := ⟨RX13, "mark", "(IZ)Z"⟩
abbrev cX13_allLeft : ByteArray := prog_15_method_105_code
def yX13_allLeft : MethodName := ⟨RX13, "allLeft", "()I"⟩
abbrev cX13_count : ByteArray := prog_15_method_106_code
def yX13_count : MethodName := ⟨RX13, "count", "(I)I"⟩
def RJx145de : String := "java/io/Serializable"
def TJx145de : u_T := fun k => match k with
  | _ => ("", "", "", false)
def tyJx145de : Nat → FieldType := fun k => match k with
  | _ => .int
abbrev wsJx145de0 : List Cond := u_ws RJx145de TJx145de 0
theorem nmJx145de : ∀ a, a < 0 → ∀ b, b < 0 → a ≠ b → (TJx145de a).2.1 ≠ (TJx145de b).2.1 := by decide +kernel
theorem tyJx145de_ok : ∀ k, k < 0 → parseFieldDescriptor (TJx145de k).2.2.1 = some (tyJx145de k) := by decide +kernel
def RJx9f9b0 : String := "java/lang/CharSequence"
def TJx9f9b0 : u_T := fun k => match k with
  | _ => ("", "", "", false)
def tyJx9f9b0 : Nat → FieldType := fun k => match k with
  | _ => .int
abbrev wsJx9f9b00 : List Cond := u_ws RJx9f9b0 TJx9f9b0 0
theorem nmJx9f9b0 : ∀ a, a < 0 → ∀ b, b < 0 → a ≠ b → (TJx9f9b0 a).2.1 ≠ (TJx9f9b0 b).2.1 := by decide +kernel
theorem tyJx9f9b0_ok : ∀ k, k < 0 → parseFieldDescriptor (TJx9f9b0 k).2.2.1 = some (tyJx9f9b0 k) := by decide +kernel
def RJxb160c : String := "java/lang/Comparable"
def TJxb160c : u_T := fun k => match k with
  | _ => ("", "", "", false)
def tyJxb160c : Nat → FieldType := fun k => match k with
  | _ => .int
abbrev wsJxb160c0 : List Cond := u_ws RJxb160c TJxb160c 0
theorem nmJxb160c : ∀ a, a < 0 → ∀ b, b < 0 → a ≠ b → (TJxb160c a).2.1 ≠ (TJxb160c b).2.1 := by decide +kernel
theorem tyJxb160c_ok : ∀ k, k < 0 → parseFieldDescriptor (TJxb160c k).2.2.1 = some (tyJxb160c k) := by decide +kernel
def RJx29ce0 : String := "java/lang/Enum"
def TJx29ce0 : u_T := fun k => match k with
  | _ => ("", "", "", false)
def tyJx29ce0 : Nat → FieldType := fun k => match k with
  | _ => .int
abbrev wsJx29ce00 : List Cond := u_ws RJx29ce0 TJx29ce0 0
theorem nmJx29ce0 : ∀ a, a < 0 → ∀ b, b < 0 → a ≠ b → (TJx29ce0 a).2.1 ≠ (TJx29ce0 b).2.1 := by decide +kernel
theorem tyJx29ce0_ok : ∀ k, k < 0 → parseFieldDescriptor (TJx29ce0 k).2.2.1 = some (tyJx29ce0 k) := by decide +kernel
abbrev cJx29ce0_ordinal_8abf5 : ByteArray := prog_19_method_2_code
def yJx29ce0_ordinal_8abf5 : MethodName := ⟨RJx29ce0, "ordinal", "()I"⟩
def RJ6 : String := "java/lang/Integer"
def TJ6 : u_T := fun k => match k with
  | _ => ("", "", "", false)
def tyJ6 : Nat → FieldType := fun k => match k with
  | _ => .int
abbrev wsJ60 : List Cond := u_ws RJ6 TJ6 0
theorem nmJ6 : ∀ a, a < 0 → ∀ b, b < 0 → a ≠ b → (TJ6 a).2.1 ≠ (TJ6 b).2.1 := by decide +kernel
theorem tyJ6_ok : ∀ k, k < 0 → parseFieldDescriptor (TJ6 k).2.2.1 = some (tyJ6 k) := by decide +kernel
abbrev cJ6_bitCount_0f7a4 : ByteArray := prog_21_method_49_code
def yJ6_bitCount_0f7a4 : MethodName := ⟨RJ6, "bitCount", "(I)I"⟩
def RJ9 : String := "java/lang/Math"
def TJ9 : u_T := fun k => match k with
  | _ => ("", "", "", false)
def tyJ9 : Nat → FieldType := fun k => match k with
  | _ => .int
abbrev wsJ90 : List Cond := u_ws RJ9 TJ9 0
theorem nmJ9 : ∀ a, a < 0 → ∀ b, b < 0 → a ≠ b → (TJ9 a).2.1 ≠ (TJ9 b).2.1 := by decide +kernel
theorem tyJ9_ok : ∀ k, k < 0 → parseFieldDescriptor (TJ9 k).2.2.1 = some (tyJ9 k) := by decide +kernel
abbrev cJ9_floorMod_7cf53 : ByteArray := prog_22_method_50_code
def yJ9_floorMod_7cf53 : MethodName := ⟨RJ9, "floorMod", "(II)I"⟩
abbrev cJ9_max_7cf53 : ByteArray := prog_22_method_65_code
def yJ9_max_7cf53 : MethodName := ⟨RJ9, "max", "(II)I"⟩
abbrev cJ9_min_7cf53 : ByteArray := prog_22_method_69_code
def yJ9_min_7cf53 : MethodName := ⟨RJ9, "min", "(II)I"⟩
def RJ0 : String := "java/lang/String"
def TJ0 : u_T := fun k => match k with
  | _ => ("", "", "", false)
def tyJ0 : Nat → FieldType := fun k => match k with
  | _ => .int
abbrev wsJ00 : List Cond := u_ws RJ0 TJ0 0
theorem nmJ0 : ∀ a, a < 0 → ∀ b, b < 0 → a ≠ b → (TJ0 a).2.1 ≠ (TJ0 b).2.1 := by decide +kernel
theorem tyJ0_ok : ∀ k, k < 0 → parseFieldDescriptor (TJ0 k).2.2.1 = some (tyJ0 k) := by decide +kernel
abbrev cJ0_length_8abf5 : ByteArray := prog_24_method_54_code
def yJ0_length_8abf5 : MethodName := ⟨RJ0, "length", "()I"⟩
abbrev cJ0_charAt_5068e : ByteArray := prog_24_method_56_code
def yJ0_charAt_5068e : MethodName := ⟨RJ0, "charAt", "(I)C"⟩
abbrev cJ0_coder_7d493 : ByteArray := prog_24_method_152_code
def yJ0_coder_7d493 : MethodName := ⟨RJ0, "coder", "()B"⟩
abbrev cJ0_isLatin1_aae02 : ByteArray := prog_24_method_154_code
def yJ0_isLatin1_aae02 : MethodName := ⟨RJ0, "isLatin1", "()Z"⟩
abbrev cJ0_checkIndex_df160 : ByteArray := prog_24_method_155_code
def yJ0_checkIndex_df160 : MethodName := ⟨RJ0, "checkIndex", "(II)V"⟩
def RJ1 : String := "java/lang/StringLatin1"
def TJ1 : u_T := fun k => match k with
  | _ => ("", "", "", false)
def tyJ1 : Nat → FieldType := fun k => match k with
  | _ => .int
abbrev wsJ10 : List Cond := u_ws RJ1 TJ1 0
theorem nmJ1 : ∀ a, a < 0 → ∀ b, b < 0 → a ≠ b → (TJ1 a).2.1 ≠ (TJ1 b).2.1 := by decide +kernel
theorem tyJ1_ok : ∀ k, k < 0 → parseFieldDescriptor (TJ1 k).2.2.1 = some (tyJ1 k) := by decide +kernel
abbrev cJ1_charAt_3b067 : ByteArray := prog_25_method_2_code
def yJ1_charAt_3b067 : MethodName := ⟨RJ1, "charAt", "([BI)C"⟩
def RJ2 : String := "java/lang/StringUTF16"
def TJ2 : u_T := fun k => match k with
  | _ => ("", "", "", false)
def tyJ2 : Nat → FieldType := fun k => match k with
  | _ => .int
abbrev wsJ20 : List Cond := u_ws RJ2 TJ2 0
theorem nmJ2 : ∀ a, a < 0 → ∀ b, b < 0 → a ≠ b → (TJ2 a).2.1 ≠ (TJ2 b).2.1 := by decide +kernel
theorem tyJ2_ok : ∀ k, k < 0 → parseFieldDescriptor (TJ2 k).2.2.1 = some (tyJ2 k) := by decide +kernel
abbrev cJ2_getChar_3b067 : ByteArray := prog_26_method_5_code
def yJ2_getChar_3b067 : MethodName := ⟨RJ2, "getChar", "([BI)C"⟩
abbrev cJ2_length_9d52b : ByteArray := prog_26_method_6_code
def yJ2_length_9d52b : MethodName := ⟨RJ2, "length", "([B)I"⟩
abbrev cJ2_charAt_3b067 : ByteArray := prog_26_method_83_code
def yJ2_charAt_3b067 : MethodName := ⟨RJ2, "charAt", "([BI)C"⟩
abbrev cJ2_checkIndex_2214a : ByteArray := prog_26_method_91_code
def yJ2_checkIndex_2214a : MethodName := ⟨RJ2, "checkIndex", "(I[B)V"⟩
def RJ10 : String := "java/lang/System"
def TJ10 : u_T := fun k => match k with
  | _ => ("", "", "", false)
def tyJ10 : Nat → FieldType := fun k => match k with
  | _ => .int
abbrev wsJ100 : List Cond := u_ws RJ10 TJ10 0
theorem nmJ10 : ∀ a, a < 0 → ∀ b, b < 0 → a ≠ b → (TJ10 a).2.1 ≠ (TJ10 b).2.1 := by decide +kernel
theorem tyJ10_ok : ∀ k, k < 0 → parseFieldDescriptor (TJ10 k).2.2.1 = some (tyJ10 k) := by decide +kernel
def RJxfd54e : String := "java/lang/constant/Constable"
def TJxfd54e : u_T := fun k => match k with
  | _ => ("", "", "", false)
def tyJxfd54e : Nat → FieldType := fun k => match k with
  | _ => .int
abbrev wsJxfd54e0 : List Cond := u_ws RJxfd54e TJxfd54e 0
theorem nmJxfd54e : ∀ a, a < 0 → ∀ b, b < 0 → a ≠ b → (TJxfd54e a).2.1 ≠ (TJxfd54e b).2.1 := by decide +kernel
theorem tyJxfd54e_ok : ∀ k, k < 0 → parseFieldDescriptor (TJxfd54e k).2.2.1 = some (tyJxfd54e k) := by decide +kernel
def RJx3cf43 : String := "java/lang/constant/ConstantDesc"
def TJx3cf43 : u_T := fun k => match k with
  | _ => ("", "", "", false)
def tyJx3cf43 : Nat → FieldType := fun k => match k with
  | _ => .int
abbrev wsJx3cf430 : List Cond := u_ws RJx3cf43 TJx3cf43 0
theorem nmJx3cf43 : ∀ a, a < 0 → ∀ b, b < 0 → a ≠ b → (TJx3cf43 a).2.1 ≠ (TJx3cf43 b).2.1 := by decide +kernel
theorem tyJx3cf43_ok : ∀ k, k < 0 → parseFieldDescriptor (TJx3cf43 k).2.2.1 = some (tyJx3cf43 k) := by decide +kernel
def RJ3 : String := "jdk/internal/util/Preconditions"
def TJ3 : u_T := fun k => match k with
  | _ => ("", "", "", false)
def tyJ3 : Nat → FieldType := fun k => match k with
  | _ => .int
abbrev wsJ30 : List Cond := u_ws RJ3 TJ3 0
theorem nmJ3 : ∀ a, a < 0 → ∀ b, b < 0 → a ≠ b → (TJ3 a).2.1 ≠ (TJ3 b).2.1 := by decide +kernel
theorem tyJ3_ok : ∀ k, k < 0 → parseFieldDescriptor (TJ3 k).2.2.1 = some (tyJ3 k) := by decide +kernel
abbrev cJ3_checkIndex_8e157 : ByteArray := prog_32_method_11_code
def yJ3_checkIndex_8e157 : MethodName := ⟨RJ3, "checkIndex", "(IILjava/util/function/BiFunction;)I"⟩
def RL : String := "FoldedRealmLaw"
abbrev cL_rests : ByteArray := method_3_code
def yL_rests : MethodName := ⟨RL, "rests", "(LFoldedRealm;IIII[J)I"⟩
abbrev cL_law : ByteArray := code
def yL_law : MethodName := ⟨RL, "law", "([I)Z"⟩
end
section
def wsL_law0_r1 : List Cond := [Cond.classLink RL 8 RX12, Cond.instantiable RX12 12, Cond.initialized RX12, Cond.classLink RL 16 RX13, Cond.instantiable RX13 63, Cond.initialized RX13, Cond.arrayClass .long, Cond.constantLong RL 19 (4294967295), Cond.methodLink RL 15 yX12_init, Cond.instanceMethod yX12_init, Cond.code yX12_init cX12_init 2 none, Cond.methodLink RX12 3 objectInit, Cond.instanceMethod objectInit, Cond.code objectInit ⟨#[0xb1]⟩ 1 none, Cond.classLink RX12 9 RX11, Cond.instantiable RX11 8, Cond.initialized RX11, Cond.fieldLink RX12 12 "FoldedRealm" "tokens" "LFoldedRealm$Tokens;", Cond.classLink RX12 16 RX6, Cond.instantiable RX6 4, Cond.initialized RX6, Cond.fieldLink RX12 21 "FoldedRealm" "reader" "LFoldedRealm$Reader;", Cond.classLink RX12 25 RX7, Cond.instantiable RX7 16]
def wsL_law0_r2 : List Cond := [Cond.initialized RX7, Cond.fieldLink RX12 28 "FoldedRealm" "realm" "LFoldedRealm$Realm;", Cond.fieldLink RX12 32 "FoldedRealm" "draft" "LFoldedRealm$Realm;", Cond.classLink RX12 35 RX5, Cond.instantiable RX5 6, Cond.initialized RX5, Cond.fieldLink RX12 38 "FoldedRealm" "page" "LFoldedRealm$Page;", Cond.fieldLink RX12 42 "FoldedRealm" "marks" "[LFoldedRealm$Page;", Cond.classLink RX12 46 RX3, Cond.instantiable RX3 3, Cond.initialized RX3, Cond.fieldLink RX12 49 "FoldedRealm" "history" "LFoldedRealm$History;", Cond.classLink RX12 53 RX10, Cond.instantiable RX10 7, Cond.initialized RX10, Cond.fieldLink RX12 56 "FoldedRealm" "trial" "LFoldedRealm$Standing;", Cond.classLink RX12 60 RX4, Cond.instantiable RX4 7, Cond.initialized RX4, Cond.fieldLink RX12 63 "FoldedRealm" "odds" "LFoldedRealm$Odds;", Cond.classLink RX12 67 RX8, Cond.instantiable RX8 1, Cond.initialized RX8, Cond.fieldLink RX12 70 "FoldedRealm" "shares" "LFoldedRealm$Shares;"]
def wsL_law0_r3 : List Cond := [Cond.arrayClass .int, Cond.fieldLink RX12 74 "FoldedRealm" "seatShares" "[I", Cond.fieldLink RX12 78 "FoldedRealm" "foes" "[I", Cond.instanceMethod yX11_init, Cond.code yX11_init cX11_init 1 none, Cond.methodLink RX11 3 objectInit, Cond.arrayClass .byte, Cond.fieldLink RX11 9 "FoldedRealm$Tokens" "signs" "[B", Cond.fieldLink RX11 15 "FoldedRealm$Sort" "END" "LFoldedRealm$Sort;", Cond.fieldLink RX11 21 "FoldedRealm$Tokens" "sort" "LFoldedRealm$Sort;", Cond.methodLink RX12 18 yX6_init, Cond.instanceMethod yX6_init, Cond.code yX6_init cX6_init 2 none, Cond.methodLink RX6 3 objectInit, Cond.fieldLink RX6 9 "FoldedRealm$Reader" "lines" "[I", Cond.fieldLink RX6 15 "FoldedRealm$Reader" "tokens" "LFoldedRealm$Tokens;", Cond.classLink RX6 19 RX2, Cond.instantiable RX2 1, Cond.initialized RX2, Cond.fieldLink RX6 24 "FoldedRealm$Reader" "formulas" "LFoldedRealm$FormulaReader;", Cond.methodLink RX6 21 yX2_init, Cond.instanceMethod yX2_init, Cond.code yX2_init cX2_init 2 none, Cond.methodLink RX2 3 objectInit]
def wsL_law0_r4 : List Cond := [Cond.fieldLink RX2 9 "FoldedRealm$FormulaReader" "tokens" "LFoldedRealm$Tokens;", Cond.methodLink RX12 27 yX7_init, Cond.instanceMethod yX7_init, Cond.code yX7_init cX7_init 2 none, Cond.methodLink RX7 3 objectInit, Cond.fieldLink RX7 9 "FoldedRealm$Realm" "kind" "[I", Cond.fieldLink RX7 15 "FoldedRealm$Realm" "writerName" "[J", Cond.fieldLink RX7 19 "FoldedRealm$Realm" "fold" "[I", Cond.fieldLink RX7 22 "FoldedRealm$Realm" "weight" "[I", Cond.fieldLink RX7 25 "FoldedRealm$Realm" "good" "[I", Cond.fieldLink RX7 28 "FoldedRealm$Realm" "left" "[I", Cond.fieldLink RX7 31 "FoldedRealm$Realm" "wordName" "[J", Cond.fieldLink RX7 34 "FoldedRealm$Realm" "fond" "[I", Cond.fieldLink RX7 37 "FoldedRealm$Realm" "clashing" "[I", Cond.classLink RX7 40 RX1, Cond.instantiable RX1 6, Cond.initialized RX1, Cond.fieldLink RX7 45 "FoldedRealm$Realm" "writes" "LFoldedRealm$Formula;", Cond.fieldLink RX7 49 "FoldedRealm$Realm" "does" "LFoldedRealm$Formula;", Cond.fieldLink RX7 52 "FoldedRealm$Realm" "folds" "I", Cond.methodLink RX7 42 yX1_init, Cond.instanceMethod yX1_init, Cond.code yX1_init cX1_init 3 none, Cond.methodLink RX1 1 objectInit]
def wsL_law0_r5 : List Cond := [Cond.fieldLink RX1 9 "FoldedRealm$Formula" "facts" "[I", Cond.fieldLink RX1 13 "FoldedRealm$Formula" "stack" "[I", Cond.fieldLink RX1 16 "FoldedRealm$Formula" "ofWrites" "Z", Cond.fieldLink RX1 20 "FoldedRealm$Formula" "steps" "[I", Cond.instanceMethod yX5_init, Cond.code yX5_init cX5_init 1 none, Cond.methodLink RX5 3 objectInit, Cond.classLink RX5 9 RX10, Cond.fieldLink RX5 12 "FoldedRealm$Page" "standing" "LFoldedRealm$Standing;", Cond.fieldLink RX5 18 "FoldedRealm$Page" "lines" "[I", Cond.instanceMethod yX10_init, Cond.code yX10_init cX10_init 1 none, Cond.methodLink RX10 3 objectInit, Cond.fieldLink RX10 9 "FoldedRealm$Standing" "left" "[I", Cond.fieldLink RX10 15 "FoldedRealm$Standing" "strip" "[I", Cond.fieldLink RX10 18 "FoldedRealm$Standing" "spike" "[I", Cond.methodLink RX12 48 yX3_init, Cond.instanceMethod yX3_init, Cond.code yX3_init cX3_init 2 none, Cond.methodLink RX3 3 objectInit, Cond.classLink RX3 9 RX10, Cond.fieldLink RX3 11 "FoldedRealm$History" "kept" "[LFoldedRealm$Standing;", Cond.instanceMethod yX4_init, Cond.code yX4_init cX4_init 1 none]
def wsL_law0_r6 : List Cond := [Cond.methodLink RX4 3 objectInit, Cond.fieldLink RX4 9 "FoldedRealm$Odds" "likely" "[I", Cond.fieldLink RX4 15 "FoldedRealm$Odds" "total" "[I", Cond.fieldLink RX4 18 "FoldedRealm$Odds" "path" "[I", Cond.fieldLink RX4 21 "FoldedRealm$Odds" "rowWords" "[I", Cond.fieldLink RX4 24 "FoldedRealm$Odds" "rowTop" "[J", Cond.fieldLink RX4 28 "FoldedRealm$Odds" "rowBottom" "[J", Cond.instanceMethod yX8_init, Cond.code yX8_init cX8_init 1 none, Cond.methodLink RX8 3 objectInit, Cond.fieldLink RX8 9 "FoldedRealm$Shares" "has" "[I", Cond.methodLink RX12 81 yX5_begin, Cond.instanceMethod yX5_begin, Cond.selects RX5 yX5_begin yX5_begin, Cond.code yX5_begin cX5_begin 2 none, Cond.fieldLink RX5 26 "FoldedRealm$Page" "lineCount" "I", Cond.fieldLink RX5 30 "FoldedRealm$Page" "readBits" "I", Cond.fieldLink RX5 33 "FoldedRealm$Page" "readCount" "I", Cond.methodLink RX5 22 yX10_begin, Cond.instanceMethod yX10_begin, Cond.selects RX10 yX10_begin yX10_begin, Cond.code yX10_begin cX10_begin 2 none, Cond.methodLink RX10 24 arraycopyName, Cond.native arraycopyName]
def wsL_law0_r7 : List Cond := [Cond.static arraycopyName, Cond.initialized "java/lang/System", Cond.fieldLink RX10 30 "FoldedRealm$Standing" "written" "I", Cond.fieldLink RX10 34 "FoldedRealm$Standing" "seat" "I", Cond.fieldLink RX10 37 "FoldedRealm$Standing" "wholes" "I", Cond.fieldLink RX10 40 "FoldedRealm$Standing" "good" "I", Cond.methodLink RL 18 yX13_init, Cond.instanceMethod yX13_init, Cond.code yX13_init cX13_init 1 none, Cond.methodLink RX13 1 objectInit, Cond.fieldLink RX13 7 "FoldedRealmModel" "tape" "[I", Cond.fieldLink RX13 13 "FoldedRealmModel" "realm" "[I", Cond.fieldLink RX13 16 "FoldedRealmModel" "writerName" "[J", Cond.fieldLink RX13 20 "FoldedRealmModel" "wordName" "[J", Cond.fieldLink RX13 23 "FoldedRealmModel" "kind" "[I", Cond.fieldLink RX13 26 "FoldedRealmModel" "fold" "[I", Cond.fieldLink RX13 29 "FoldedRealmModel" "weight" "[I", Cond.fieldLink RX13 32 "FoldedRealmModel" "good" "[I", Cond.fieldLink RX13 35 "FoldedRealmModel" "leftTold" "[I", Cond.fieldLink RX13 38 "FoldedRealmModel" "likes" "[I", Cond.fieldLink RX13 41 "FoldedRealmModel" "clashes" "[I", Cond.fieldLink RX13 44 "FoldedRealmModel" "lineFrom" "[I", Cond.fieldLink RX13 47 "FoldedRealmModel" "lineTo" "[I", Cond.fieldLink RX13 50 "FoldedRealmModel" "codes" "[I"]
def wsL_law0_r8 : List Cond := [Cond.fieldLink RX13 53 "FoldedRealmModel" "opened" "[I", Cond.arrayClass .boolean, Cond.fieldLink RX13 56 "FoldedRealmModel" "compared" "[Z", Cond.fieldLink RX13 60 "FoldedRealmModel" "kept" "[I", Cond.fieldLink RX13 63 "FoldedRealmModel" "keptBy" "[I", Cond.fieldLink RX13 66 "FoldedRealmModel" "ahead" "[I", Cond.fieldLink RX13 69 "FoldedRealmModel" "against" "[I", Cond.fieldLink RX13 72 "FoldedRealmModel" "sum" "[I", Cond.fieldLink RX13 75 "FoldedRealmModel" "sumBy" "[I", Cond.fieldLink RX13 78 "FoldedRealmModel" "term" "[I", Cond.fieldLink RX13 81 "FoldedRealmModel" "termBy" "[I", Cond.fieldLink RX13 84 "FoldedRealmModel" "byNot" "[I", Cond.fieldLink RX13 87 "FoldedRealmModel" "valueOf" "[I", Cond.fieldLink RX13 90 "FoldedRealmModel" "lines" "[I", Cond.fieldLink RX13 93 "FoldedRealmModel" "lineWhat" "[I", Cond.fieldLink RX13 96 "FoldedRealmModel" "lineN" "[I", Cond.fieldLink RX13 99 "FoldedRealmModel" "reads0" "[I", Cond.fieldLink RX13 102 "FoldedRealmModel" "readWord" "[I", Cond.fieldLink RX13 105 "FoldedRealmModel" "s" "[I", Cond.fieldLink RX13 108 "FoldedRealmModel" "aside" "[I", Cond.fieldLink RX13 111 "FoldedRealmModel" "marked" "[I", Cond.fieldLink RX13 114 "FoldedRealmModel" "undone" "[I", Cond.fieldLink RX13 117 "FoldedRealmModel" "isLaid" "[Z", Cond.fieldLink RX13 120 "FoldedRealmModel" "row" "[I"]
def wsL_law0_r9 : List Cond := [Cond.fieldLink RX13 123 "FoldedRealmModel" "bestRow" "[I", Cond.fieldLink RX13 126 "FoldedRealmModel" "share" "[I", Cond.fieldLink RX13 129 "FoldedRealmModel" "onlyAt" "[I", Cond.methodLink RX13 132 yX13_fresh, Cond.instanceMethod yX13_fresh, Cond.selects RX13 yX13_fresh yX13_fresh, Cond.code yX13_fresh cX13_fresh 2 none, Cond.methodLink RL 21 yX12_feed, Cond.instanceMethod yX12_feed, Cond.selects RX12 yX12_feed yX12_feed, Cond.code yX12_feed cX12_feed 7 (some .int), Cond.methodLink RX12 85 yX11_append, Cond.instanceMethod yX11_append, Cond.selects RX11 yX11_append yX11_append, Cond.code yX11_append cX11_append 6 none, Cond.fieldLink RX11 24 "FoldedRealm$Tokens" "length" "I", Cond.methodLink RL 25 yX13_feed, Cond.instanceMethod yX13_feed, Cond.selects RX13 yX13_feed yX13_feed, Cond.code yX13_feed cX13_feed 11 (some .int), Cond.fieldLink RX13 135 "FoldedRealmModel" "thrown" "I", Cond.constantLong RX13 139 (255), Cond.fieldLink RX13 141 "FoldedRealmModel" "taped" "I", Cond.methodLink RL 26 yX12_realm]
def wsL_law0_r10 : List Cond := [Cond.instanceMethod yX12_realm, Cond.selects RX12 yX12_realm yX12_realm, Cond.code yX12_realm cX12_realm 4 (some .int), Cond.methodLink RX12 93 yX6_readRealm, Cond.instanceMethod yX6_readRealm, Cond.selects RX6 yX6_readRealm yX6_readRealm, Cond.code yX6_readRealm cX6_readRealm 4 (some .int), Cond.fieldLink RX6 38 "FoldedRealm$Sort" "END" "LFoldedRealm$Sort;", Cond.fieldLink RX6 48 "FoldedRealm$1" "$SwitchMap$FoldedRealm$Sort" "[I", Cond.fieldLink RX6 91 "FoldedRealm$Sort" "STOP" "LFoldedRealm$Sort;", Cond.methodLink RX6 28 yX7_clear, Cond.instanceMethod yX7_clear, Cond.selects RX7 yX7_clear yX7_clear, Cond.code yX7_clear cX7_clear 2 none, Cond.fieldLink RX7 56 "FoldedRealm$Realm" "writers" "I", Cond.fieldLink RX7 59 "FoldedRealm$Realm" "words" "I", Cond.fieldLink RX7 62 "FoldedRealm$Realm" "clashesTold" "I", Cond.fieldLink RX7 65 "FoldedRealm$Realm" "foldsTold" "Z", Cond.methodLink RX7 69 yX1_clear, Cond.instanceMethod yX1_clear, Cond.selects RX1 yX1_clear yX1_clear, Cond.code yX1_clear cX1_clear 1 none, Cond.fieldLink RX1 23 "FoldedRealm$Formula" "from" "I", Cond.fieldLink RX1 27 "FoldedRealm$Formula" "to" "I"]
def wsL_law0_r11 : List Cond := [Cond.methodLink RX6 33 yX11_begin, Cond.instanceMethod yX11_begin, Cond.selects RX11 yX11_begin yX11_begin, Cond.code yX11_begin cX11_begin 1 none, Cond.fieldLink RX11 28 "FoldedRealm$Tokens" "next" "I", Cond.fieldLink RX11 31 "FoldedRealm$Tokens" "fault" "I", Cond.methodLink RX11 34 yX11_step, Cond.instanceMethod yX11_step, Cond.selects RX11 yX11_step yX11_step, Cond.code yX11_step cX11_step 1 none, Cond.fieldLink RX11 37 "FoldedRealm$Tokens" "place" "I", Cond.methodLink RX11 44 yX11_isLetter, Cond.instanceMethod yX11_isLetter, Cond.selects RX11 yX11_isLetter yX11_isLetter, Cond.code yX11_isLetter cX11_isLetter 2 (some .boolean), Cond.methodLink RX11 47 yX11_takeLetters, Cond.instanceMethod yX11_takeLetters, Cond.selects RX11 yX11_takeLetters yX11_takeLetters, Cond.code yX11_takeLetters cX11_takeLetters 1 none, Cond.fieldLink RX11 60 "FoldedRealm$Tokens" "name" "J", Cond.constantLong RX11 64 (32), Cond.methodLink RX11 50 yX11_isDigit, Cond.instanceMethod yX11_isDigit, Cond.selects RX11 yX11_isDigit yX11_isDigit]
def wsL_law0_r12 : List Cond := [Cond.code yX11_isDigit cX11_isDigit 2 (some .boolean), Cond.methodLink RX11 53 yX11_takeDigits, Cond.instanceMethod yX11_takeDigits, Cond.selects RX11 yX11_takeDigits yX11_takeDigits, Cond.code yX11_takeDigits cX11_takeDigits 1 none, Cond.fieldLink RX11 66 "FoldedRealm$Tokens" "number" "I", Cond.methodLink RX11 56 yX11_sortTaken, Cond.instanceMethod yX11_sortTaken, Cond.selects RX11 yX11_sortTaken yX11_sortTaken, Cond.code yX11_sortTaken cX11_sortTaken 3 (some (.object "FoldedRealm$Sort")), Cond.fieldLink RX11 69 "FoldedRealm$Sort" "NOTHING" "LFoldedRealm$Sort;", Cond.fieldLink RX11 72 "FoldedRealm$Sort" "NUMBER" "LFoldedRealm$Sort;", Cond.fieldLink RX11 87 "FoldedRealm$Sort" "NAME" "LFoldedRealm$Sort;", Cond.methodLink RX11 83 yX11_hasText, Cond.instanceMethod yX11_hasText, Cond.selects RX11 yX11_hasText yX11_hasText, Cond.code yX11_hasText cX11_hasText 3 (some .boolean), Cond.methodLink RX11 90 yJ0_length_8abf5, Cond.instanceMethod yJ0_length_8abf5, Cond.selects RJ0 yJ0_length_8abf5 yJ0_length_8abf5, Cond.initialized RJ0, Cond.code yJ0_length_8abf5 cJ0_length_8abf5 1 (some .int), Cond.fieldLink RJ0 9 "java/lang/String" "value" "[B", Cond.methodLink RJ0 335 yJ0_coder_7d493]
def wsL_law0_r13 : List Cond := [Cond.instanceMethod yJ0_coder_7d493, Cond.selects RJ0 yJ0_coder_7d493 yJ0_coder_7d493, Cond.code yJ0_coder_7d493 cJ0_coder_7d493 1 (some .byte), Cond.fieldLink RJ0 38 "java/lang/String" "COMPACT_STRINGS" "Z", Cond.fieldLink RJ0 15 "java/lang/String" "coder" "B", Cond.methodLink RX11 95 yJ0_charAt_5068e, Cond.instanceMethod yJ0_charAt_5068e, Cond.selects RJ0 yJ0_charAt_5068e yJ0_charAt_5068e, Cond.code yJ0_charAt_5068e cJ0_charAt_5068e 2 (some .char), Cond.methodLink RJ0 492 yJ0_isLatin1_aae02, Cond.instanceMethod yJ0_isLatin1_aae02, Cond.selects RJ0 yJ0_isLatin1_aae02 yJ0_isLatin1_aae02, Cond.code yJ0_isLatin1_aae02 cJ0_isLatin1_aae02 1 (some .boolean), Cond.methodLink RJ0 495 yJ1_charAt_3b067, Cond.static yJ1_charAt_3b067, Cond.initialized RJ1, Cond.code yJ1_charAt_3b067 cJ1_charAt_3b067 2 (some .char), Cond.methodLink RJ1 9 yJ0_checkIndex_df160, Cond.static yJ0_checkIndex_df160, Cond.code yJ0_checkIndex_df160 cJ0_checkIndex_df160 2 none, Cond.fieldLink RJ0 1053 "jdk/internal/util/Preconditions" "SIOOBE_FORMATTER" "Ljava/util/function/BiFunction;", Cond.methodLink RJ0 1059 yJ3_checkIndex_8e157, Cond.static yJ3_checkIndex_8e157, Cond.initialized RJ3]
def wsL_law0_r14 : List Cond := [Cond.code yJ3_checkIndex_8e157 cJ3_checkIndex_8e157 3 (some .int), Cond.methodLink RJ0 498 yJ2_charAt_3b067, Cond.static yJ2_charAt_3b067, Cond.initialized RJ2, Cond.code yJ2_charAt_3b067 cJ2_charAt_3b067 2 (some .char), Cond.methodLink RJ2 67 yJ2_checkIndex_2214a, Cond.static yJ2_checkIndex_2214a, Cond.code yJ2_checkIndex_2214a cJ2_checkIndex_2214a 2 none, Cond.methodLink RJ2 48 yJ2_length_9d52b, Cond.static yJ2_length_9d52b, Cond.code yJ2_length_9d52b cJ2_length_9d52b 1 (some .int), Cond.methodLink RJ2 414 yJ0_checkIndex_df160, Cond.methodLink RJ2 71 yJ2_getChar_3b067, Cond.static yJ2_getChar_3b067, Cond.code yJ2_getChar_3b067 cJ2_getChar_3b067 2 (some .char), Cond.fieldLink RJ2 44 "java/lang/StringUTF16" "$assertionsDisabled" "Z", Cond.fieldLink RJ2 59 "java/lang/StringUTF16" "HI_BYTE_SHIFT" "I", Cond.fieldLink RJ2 63 "java/lang/StringUTF16" "LO_BYTE_SHIFT" "I", Cond.methodLink RX6 44 yX11_is, Cond.instanceMethod yX11_is, Cond.selects RX11 yX11_is yX11_is, Cond.code yX11_is cX11_is 2 (some .boolean), Cond.methodLink RX6 56 ⟨"FoldedRealm$Sort", "ordinal", "()I"⟩, Cond.sameMethod "FoldedRealm$Sort" "java/lang/Enum" "ordinal" "()I"]
def wsL_law0_r15 : List Cond := [Cond.selects RX9 ⟨"FoldedRealm$Sort", "ordinal", "()I"⟩ yJx29ce0_ordinal_8abf5, Cond.instanceMethod yJx29ce0_ordinal_8abf5, Cond.initialized RJx29ce0, Cond.code yJx29ce0_ordinal_8abf5 cJx29ce0_ordinal_8abf5 1 (some .int), Cond.fieldLink RJx29ce0 7 "java/lang/Enum" "ordinal" "I", Cond.methodLink RX6 60 yX6_readWriter, Cond.instanceMethod yX6_readWriter, Cond.selects RX6 yX6_readWriter yX6_readWriter, Cond.code yX6_readWriter cX6_readWriter 4 (some .boolean), Cond.methodLink RX6 87 yX11_fail, Cond.instanceMethod yX11_fail, Cond.selects RX11 yX11_fail yX11_fail, Cond.code yX11_fail cX11_fail 2 (some .boolean), Cond.methodLink RX6 104 yX11_step, Cond.methodLink RX6 107 yX6_isNewName, Cond.instanceMethod yX6_isNewName, Cond.selects RX6 yX6_isNewName yX6_isNewName, Cond.code yX6_isNewName cX6_isNewName 3 (some .boolean), Cond.fieldLink RX6 165 "FoldedRealm$Sort" "NAME" "LFoldedRealm$Sort;", Cond.methodLink RX6 168 yX7_findWriter, Cond.instanceMethod yX7_findWriter, Cond.selects RX7 yX7_findWriter yX7_findWriter, Cond.code yX7_findWriter cX7_findWriter 4 (some .int), Cond.methodLink RX6 176 yX7_findWord]
def wsL_law0_r16 : List Cond := [Cond.instanceMethod yX7_findWord, Cond.selects RX7 yX7_findWord yX7_findWord, Cond.code yX7_findWord cX7_findWord 4 (some .int), Cond.methodLink RX6 118 yX6_kindTold, Cond.instanceMethod yX6_kindTold, Cond.selects RX6 yX6_kindTold yX6_kindTold, Cond.code yX6_kindTold cX6_kindTold 1 (some .int), Cond.methodLink RX6 64 yX6_readWord, Cond.instanceMethod yX6_readWord, Cond.selects RX6 yX6_readWord yX6_readWord, Cond.code yX6_readWord cX6_readWord 4 (some .boolean), Cond.fieldLink RX6 130 "FoldedRealm$Sort" "FOLD" "LFoldedRealm$Sort;", Cond.fieldLink RX6 140 "FoldedRealm$Sort" "WEIGHT" "LFoldedRealm$Sort;", Cond.fieldLink RX6 146 "FoldedRealm$Sort" "GOOD" "LFoldedRealm$Sort;", Cond.fieldLink RX6 152 "FoldedRealm$Sort" "LEFT" "LFoldedRealm$Sort;", Cond.methodLink RX6 136 yX6_readEntry, Cond.instanceMethod yX6_readEntry, Cond.selects RX6 yX6_readEntry yX6_readEntry, Cond.code yX6_readEntry cX6_readEntry 5 (some .boolean), Cond.methodLink RX6 158 yX6_isNumber, Cond.instanceMethod yX6_isNumber, Cond.selects RX6 yX6_isNumber yX6_isNumber, Cond.code yX6_isNumber cX6_isNumber 4 (some .boolean), Cond.fieldLink RX6 239 "FoldedRealm$Sort" "NUMBER" "LFoldedRealm$Sort;"]
def wsL_law0_r17 : List Cond := [Cond.methodLink RX6 67 yX6_readLikes, Cond.instanceMethod yX6_readLikes, Cond.selects RX6 yX6_readLikes yX6_readLikes, Cond.code yX6_readLikes cX6_readLikes 4 (some .boolean), Cond.methodLink RX6 172 yX6_failAtName, Cond.instanceMethod yX6_failAtName, Cond.selects RX6 yX6_failAtName yX6_failAtName, Cond.code yX6_failAtName cX6_failAtName 1 (some .boolean), Cond.methodLink RX6 179 yX7_fondness, Cond.instanceMethod yX7_fondness, Cond.selects RX7 yX7_fondness yX7_fondness, Cond.code yX7_fondness cX7_fondness 3 (some .int), Cond.methodLink RX7 76 yX7_hasWriter, Cond.instanceMethod yX7_hasWriter, Cond.selects RX7 yX7_hasWriter yX7_hasWriter, Cond.code yX7_hasWriter cX7_hasWriter 2 (some .boolean), Cond.methodLink RX7 72 yX7_hasWord, Cond.instanceMethod yX7_hasWord, Cond.selects RX7 yX7_hasWord yX7_hasWord, Cond.code yX7_hasWord cX7_hasWord 2 (some .boolean), Cond.methodLink RX6 183 yX7_setFondness, Cond.instanceMethod yX7_setFondness, Cond.selects RX7 yX7_setFondness yX7_setFondness, Cond.code yX7_setFondness cX7_setFondness 4 none]
def wsL_law0_r18 : List Cond := [Cond.methodLink RX6 70 yX6_readClash, Cond.instanceMethod yX6_readClash, Cond.selects RX6 yX6_readClash yX6_readClash, Cond.code yX6_readClash cX6_readClash 4 (some .boolean), Cond.methodLink RX6 187 yX7_doClash, Cond.instanceMethod yX7_doClash, Cond.selects RX7 yX7_doClash yX7_doClash, Cond.code yX7_doClash cX7_doClash 3 (some .boolean), Cond.methodLink RX6 190 yX7_setClash, Cond.instanceMethod yX7_setClash, Cond.selects RX7 yX7_setClash yX7_setClash, Cond.code yX7_setClash cX7_setClash 3 none, Cond.methodLink RX6 73 yX6_readFolds, Cond.instanceMethod yX6_readFolds, Cond.selects RX6 yX6_readFolds yX6_readFolds, Cond.code yX6_readFolds cX6_readFolds 2 (some .boolean), Cond.methodLink RX6 80 yX6_readFormula, Cond.instanceMethod yX6_readFormula, Cond.selects RX6 yX6_readFormula yX6_readFormula, Cond.code yX6_readFormula cX6_readFormula 3 (some .boolean), Cond.methodLink RX6 209 Lib.Math.max.name, Cond.static Lib.Math.max.name, Cond.initialized "java/lang/Math", Cond.code Lib.Math.max.name Lib.Math.max.code 2 (some .int)]
def wsL_law0_r19 : List Cond := [Cond.methodLink RX6 201 yX1_isTold, Cond.instanceMethod yX1_isTold, Cond.selects RX1 yX1_isTold yX1_isTold, Cond.code yX1_isTold cX1_isTold 1 (some .boolean), Cond.methodLink RX6 214 yX1_beginAt, Cond.instanceMethod yX1_beginAt, Cond.selects RX1 yX1_beginAt yX1_beginAt, Cond.code yX1_beginAt cX1_beginAt 2 none, Cond.methodLink RX6 218 yX2_readE, Cond.instanceMethod yX2_readE, Cond.selects RX2 yX2_readE yX2_readE, Cond.code yX2_readE cX2_readE 6 (some .boolean), Cond.fieldLink RX2 19 "FoldedRealm$Sort" "AND" "LFoldedRealm$Sort;", Cond.fieldLink RX2 31 "FoldedRealm$Sort" "OR" "LFoldedRealm$Sort;", Cond.methodLink RX2 15 yX2_readTest, Cond.instanceMethod yX2_readTest, Cond.selects RX2 yX2_readTest yX2_readTest, Cond.methodLink RX2 25 yX11_is, Cond.methodLink RX2 36 yX11_step, Cond.methodLink RX2 39 yX1_add, Cond.instanceMethod yX1_add, Cond.selects RX1 yX1_add yX1_add, Cond.code yX1_add cX1_add 2 none, Cond.code yX2_readPart cX2_readPart 6 (some .boolean)]
def wsL_law0_r20 : List Cond := [Cond.fieldLink RX2 78 "FoldedRealm$Sort" "NUMBER" "LFoldedRealm$Sort;", Cond.fieldLink RX2 81 "FoldedRealm$Sort" "NOT" "LFoldedRealm$Sort;", Cond.fieldLink RX2 84 "FoldedRealm$Sort" "OPEN" "LFoldedRealm$Sort;", Cond.methodLink RX2 71 yX2_factTold, Cond.instanceMethod yX2_factTold, Cond.selects RX2 yX2_factTold yX2_factTold, Cond.code yX2_factTold cX2_factTold 2 (some .int), Cond.fieldLink RX2 107 "FoldedRealm$Sort" "NAME" "LFoldedRealm$Sort;", Cond.methodLink RX2 110 yX2_factOfWrites, Cond.instanceMethod yX2_factOfWrites, Cond.selects RX2 yX2_factOfWrites yX2_factOfWrites, Cond.code yX2_factOfWrites cX2_factOfWrites 1 (some .int), Cond.methodLink RX2 119 yX11_hasText, Cond.methodLink RX2 114 yX2_factOfDoes, Cond.instanceMethod yX2_factOfDoes, Cond.selects RX2 yX2_factOfDoes yX2_factOfDoes, Cond.code yX2_factOfDoes cX2_factOfDoes 1 (some .int), Cond.methodLink RX2 87 yX11_fail, Cond.methodLink RX2 95 yX1_addFact, Cond.instanceMethod yX1_addFact, Cond.selects RX1 yX1_addFact yX1_addFact, Cond.code yX1_addFact cX1_addFact 2 none, Cond.methodLink RX1 30 yX1_add, Cond.methodLink RX2 61 yX2_readPart]
def wsL_law0_r21 : List Cond := [Cond.instanceMethod yX2_readPart, Cond.selects RX2 yX2_readPart yX2_readPart, Cond.methodLink RX2 98 yX2_readToClose, Cond.instanceMethod yX2_readToClose, Cond.selects RX2 yX2_readToClose yX2_readToClose, Cond.code yX2_readProduct cX2_readProduct 5 (some .boolean), Cond.fieldLink RX2 64 "FoldedRealm$Sort" "TIMES" "LFoldedRealm$Sort;", Cond.code yX2_readSum cX2_readSum 6 (some .boolean), Cond.fieldLink RX2 55 "FoldedRealm$Sort" "PLUS" "LFoldedRealm$Sort;", Cond.fieldLink RX2 58 "FoldedRealm$Sort" "MINUS" "LFoldedRealm$Sort;", Cond.methodLink RX2 52 yX2_readProduct, Cond.instanceMethod yX2_readProduct, Cond.selects RX2 yX2_readProduct yX2_readProduct, Cond.code yX2_readTest cX2_readTest 5 (some .boolean), Cond.fieldLink RX2 46 "FoldedRealm$Sort" "LESS" "LFoldedRealm$Sort;", Cond.fieldLink RX2 49 "FoldedRealm$Sort" "SAME" "LFoldedRealm$Sort;", Cond.methodLink RX2 43 yX2_readSum, Cond.instanceMethod yX2_readSum, Cond.selects RX2 yX2_readSum yX2_readSum, Cond.code yX2_readToClose cX2_readToClose 3 (some .boolean), Cond.fieldLink RX2 104 "FoldedRealm$Sort" "CLOSE" "LFoldedRealm$Sort;", Cond.methodLink RX2 101 yX2_readE, Cond.methodLink RX6 94 yX11_skip, Cond.instanceMethod yX11_skip]
def wsL_law0_r22 : List Cond := [Cond.selects RX11 yX11_skip yX11_skip, Cond.code yX11_skip cX11_skip 2 (some .boolean), Cond.methodLink RX11 40 yX11_fail, Cond.methodLink RX12 97 yX11_takeOff, Cond.instanceMethod yX11_takeOff, Cond.selects RX11 yX11_takeOff yX11_takeOff, Cond.code yX11_takeOff cX11_takeOff 1 none, Cond.methodLink RX12 100 yX3_forget, Cond.instanceMethod yX3_forget, Cond.selects RX3 yX3_forget yX3_forget, Cond.code yX3_forget cX3_forget 1 none, Cond.fieldLink RX3 18 "FoldedRealm$History" "first" "I", Cond.fieldLink RX3 22 "FoldedRealm$History" "size" "I", Cond.methodLink RL 30 yX13_realm, Cond.instanceMethod yX13_realm, Cond.selects RX13 yX13_realm yX13_realm, Cond.code yX13_realm cX13_realm 2 (some .int), Cond.fieldLink RX13 171 "FoldedRealmModel" "wrong" "I", Cond.fieldLink RX13 343 "FoldedRealmModel" "done" "I", Cond.methodLink RX13 337 yX13_readsAll, Cond.instanceMethod yX13_readsAll, Cond.selects RX13 yX13_readsAll yX13_readsAll, Cond.code yX13_readsAll cX13_readsAll 2 (some .boolean), Cond.fieldLink RX13 305 "FoldedRealmModel" "isFolds" "Z"]
def wsL_law0_r23 : List Cond := [Cond.fieldLink RX13 174 "FoldedRealmModel" "code" "I", Cond.fieldLink RX13 160 "FoldedRealmModel" "token" "I", Cond.constantLong RX13 233 (339782679), Cond.constantLong RX13 235 (464134), Cond.constantLong RX13 245 (6562612), Cond.constantLong RX13 247 (1831769), Cond.constantLong RX13 249 (3492766), Cond.constantLong RX13 251 (339782680), Cond.constantLong RX13 253 (89821), Cond.methodLink RX13 312 yX13_begins, Cond.instanceMethod yX13_begins, Cond.selects RX13 yX13_begins yX13_begins, Cond.code yX13_begins cX13_begins 1 none, Cond.fieldLink RX13 144 "FoldedRealmModel" "size" "I", Cond.fieldLink RX13 147 "FoldedRealmModel" "place" "I", Cond.methodLink RX13 217 yX13_nextToken, Cond.instanceMethod yX13_nextToken, Cond.selects RX13 yX13_nextToken yX13_nextToken, Cond.code yX13_nextToken cX13_nextToken 2 none, Cond.fieldLink RX13 150 "FoldedRealmModel" "begin" "I", Cond.fieldLink RX13 153 "FoldedRealmModel" "word" "J", Cond.fieldLink RX13 157 "FoldedRealmModel" "told" "I", Cond.constantLong RX13 167 (27), Cond.constantLong RX13 169 (96)]
def wsL_law0_r24 : List Cond := [Cond.methodLink RX13 163 yX13_signAt, Cond.instanceMethod yX13_signAt, Cond.selects RX13 yX13_signAt yX13_signAt, Cond.code yX13_signAt cX13_signAt 2 (some .int), Cond.methodLink RX13 202 yX13_isWord, Cond.instanceMethod yX13_isWord, Cond.selects RX13 yX13_isWord yX13_isWord, Cond.code yX13_isWord cX13_isWord 3 (some .boolean), Cond.methodLink RX13 315 yX13_readsWriter, Cond.instanceMethod yX13_readsWriter, Cond.selects RX13 yX13_readsWriter yX13_readsWriter, Cond.code yX13_readsWriter cX13_readsWriter 3 (some .boolean), Cond.constantLong RX13 261 (8740238), Cond.constantLong RX13 263 (459788), Cond.constantLong RX13 265 (459598), Cond.constantLong RX13 267 (14200), Cond.fieldLink RX13 290 "FoldedRealmModel" "fresh" "J", Cond.methodLink RX13 210 yX13_fails, Cond.instanceMethod yX13_fails, Cond.selects RX13 yX13_fails yX13_fails, Cond.code yX13_fails cX13_fails 2 (some .boolean), Cond.methodLink RX13 292 yX13_needsNew, Cond.instanceMethod yX13_needsNew, Cond.selects RX13 yX13_needsNew yX13_needsNew]
def wsL_law0_r25 : List Cond := [Cond.code yX13_needsNew cX13_needsNew 1 (some .boolean), Cond.methodLink RX13 280 yX13_isKept, Cond.instanceMethod yX13_isKept, Cond.selects RX13 yX13_isKept yX13_isKept, Cond.code yX13_isKept cX13_isKept 1 (some .boolean), Cond.constantLong RX13 237 (129361), Cond.constantLong RX13 239 (332864552), Cond.constantLong RX13 241 (149125), Cond.constantLong RX13 243 (240023), Cond.constantLong RX13 255 (12584543), Cond.constantLong RX13 257 (55175), Cond.constantLong RX13 259 (316189), Cond.constantLong RX13 200 (10631), Cond.constantLong RX13 220 (1111), Cond.constantLong RX13 222 (423), Cond.methodLink RX13 284 yX13_writerNamed, Cond.instanceMethod yX13_writerNamed, Cond.selects RX13 yX13_writerNamed yX13_writerNamed, Cond.code yX13_writerNamed cX13_writerNamed 2 (some .int), Cond.methodLink RX13 287 yX13_wordNamed, Cond.instanceMethod yX13_wordNamed, Cond.selects RX13 yX13_wordNamed yX13_wordNamed, Cond.code yX13_wordNamed cX13_wordNamed 3 (some .int), Cond.methodLink RX13 295 yX13_closes]
def wsL_law0_r26 : List Cond := [Cond.instanceMethod yX13_closes, Cond.selects RX13 yX13_closes yX13_closes, Cond.code yX13_closes cX13_closes 1 (some .boolean), Cond.methodLink RX13 206 yX13_isSign, Cond.instanceMethod yX13_isSign, Cond.selects RX13 yX13_isSign yX13_isSign, Cond.code yX13_isSign cX13_isSign 2 (some .boolean), Cond.methodLink RX13 318 yX13_readsWord, Cond.instanceMethod yX13_readsWord, Cond.selects RX13 yX13_readsWord yX13_readsWord, Cond.code yX13_readsWord cX13_readsWord 2 (some .boolean), Cond.fieldLink RX13 273 "FoldedRealmModel" "given" "I", Cond.methodLink RX13 298 yX13_needsBoth, Cond.instanceMethod yX13_needsBoth, Cond.selects RX13 yX13_needsBoth yX13_needsBoth, Cond.code yX13_needsBoth cX13_needsBoth 5 (some .boolean), Cond.methodLink RX13 276 yX13_needsNumber, Cond.instanceMethod yX13_needsNumber, Cond.selects RX13 yX13_needsNumber yX13_needsNumber, Cond.code yX13_needsNumber cX13_needsNumber 3 (some .boolean), Cond.methodLink RX13 269 yX13_within, Cond.static yX13_within, Cond.code yX13_within cX13_within 3 (some .boolean), Cond.methodLink RX13 321 yX13_readsLikes]
def wsL_law0_r27 : List Cond := [Cond.instanceMethod yX13_readsLikes, Cond.selects RX13 yX13_readsLikes yX13_readsLikes, Cond.code yX13_readsLikes cX13_readsLikes 3 (some .boolean), Cond.methodLink RX13 302 yX13_needsToldWord, Cond.instanceMethod yX13_needsToldWord, Cond.selects RX13 yX13_needsToldWord yX13_needsToldWord, Cond.code yX13_needsToldWord cX13_needsToldWord 2 (some .boolean), Cond.methodLink RX13 324 yX13_readsClash, Cond.instanceMethod yX13_readsClash, Cond.selects RX13 yX13_readsClash yX13_readsClash, Cond.code yX13_readsClash cX13_readsClash 2 (some .boolean), Cond.methodLink RX13 327 yX13_readsFolds, Cond.instanceMethod yX13_readsFolds, Cond.selects RX13 yX13_readsFolds yX13_readsFolds, Cond.code yX13_readsFolds cX13_readsFolds 1 (some .boolean), Cond.methodLink RX13 330 yX13_readsLaw, Cond.instanceMethod yX13_readsLaw, Cond.selects RX13 yX13_readsLaw yX13_readsLaw, Cond.code yX13_readsLaw cX13_readsLaw 2 (some .boolean), Cond.fieldLink RX13 177 "FoldedRealmModel" "lawLine" "I", Cond.methodLink RX13 309 yX13_reads, Cond.instanceMethod yX13_reads, Cond.selects RX13 yX13_reads yX13_reads, Cond.code yX13_reads cX13_reads 6 (some .boolean)]
def wsL_law0_r28 : List Cond := [Cond.methodLink RX13 196 yX13_fact, Cond.instanceMethod yX13_fact, Cond.selects RX13 yX13_fact yX13_fact, Cond.code yX13_fact cX13_fact 1 (some .int), Cond.constantLong RX13 180 (14431), Cond.constantLong RX13 182 (267347), Cond.constantLong RX13 184 (281317594), Cond.constantLong RX13 186 (4351291), Cond.constantLong RX13 188 (129415), Cond.constantLong RX13 190 (10354323), Cond.constantLong RX13 192 (267305), Cond.constantLong RX13 194 (692581), Cond.methodLink RX13 213 yX13_puts, Cond.instanceMethod yX13_puts, Cond.selects RX13 yX13_puts yX13_puts, Cond.code yX13_puts cX13_puts 2 none, Cond.methodLink RX13 340 yX13_lays, Cond.instanceMethod yX13_lays, Cond.selects RX13 yX13_lays yX13_lays, Cond.code yX13_lays cX13_lays 2 none, Cond.methodLink RX13 333 yX13_shifts, Cond.static yX13_shifts, Cond.code yX13_shifts cX13_shifts 3 none, Cond.methodLink RL 31 yX12_sundays]
def wsL_law0_r29 : List Cond := [Cond.instanceMethod yX12_sundays, Cond.selects RX12 yX12_sundays yX12_sundays, Cond.code yX12_sundays cX12_sundays 2 (some .int), Cond.methodLink RX12 107 yX6_readSundays, Cond.instanceMethod yX6_readSundays, Cond.selects RX6 yX6_readSundays yX6_readSundays, Cond.code yX6_readSundays cX6_readSundays 4 (some .int), Cond.fieldLink RX6 222 "FoldedRealm$Reader" "lineCount" "I", Cond.methodLink RX6 225 yX6_readSundayLine, Cond.instanceMethod yX6_readSundayLine, Cond.selects RX6 yX6_readSundayLine yX6_readSundayLine, Cond.code yX6_readSundayLine cX6_readSundayLine 4 (some .boolean), Cond.fieldLink RX6 228 "FoldedRealm$Sort" "WRITE" "LFoldedRealm$Sort;", Cond.fieldLink RX6 231 "FoldedRealm$Sort" "BURN" "LFoldedRealm$Sort;", Cond.fieldLink RX6 234 "FoldedRealm$Sort" "PASS" "LFoldedRealm$Sort;", Cond.methodLink RX12 116 yX5_takeLines, Cond.instanceMethod yX5_takeLines, Cond.selects RX5 yX5_takeLines yX5_takeLines, Cond.code yX5_takeLines cX5_takeLines 3 none, Cond.methodLink RX5 44 Lib.Math.min.name, Cond.static Lib.Math.min.name, Cond.code Lib.Math.min.name Lib.Math.min.code 2 (some .int), Cond.methodLink RX5 50 Lib.Math.max.name, Cond.methodLink RX5 53 arraycopyName]
def wsL_law0_r30 : List Cond := [Cond.methodLink RL 34 yX13_sundays, Cond.instanceMethod yX13_sundays, Cond.selects RX13 yX13_sundays yX13_sundays, Cond.code yX13_sundays cX13_sundays 1 (some .int), Cond.methodLink RX13 346 yX13_readsLine, Cond.instanceMethod yX13_readsLine, Cond.selects RX13 yX13_readsLine yX13_readsLine, Cond.code yX13_readsLine cX13_readsLine 3 (some .boolean), Cond.methodLink RX13 349 yX13_laysLines, Cond.instanceMethod yX13_laysLines, Cond.selects RX13 yX13_laysLines yX13_laysLines, Cond.code yX13_laysLines cX13_laysLines 4 none, Cond.methodLink RL 35 yX12_writer, Cond.instanceMethod yX12_writer, Cond.selects RX12 yX12_writer yX12_writer, Cond.code yX12_writer cX12_writer 3 (some .int), Cond.methodLink RX12 120 yX7_hasWriter, Cond.methodLink RX12 124 yX7_kindOf, Cond.instanceMethod yX7_kindOf, Cond.selects RX7 yX7_kindOf yX7_kindOf, Cond.code yX7_kindOf cX7_kindOf 2 (some .int), Cond.methodLink RX12 131 yX7_fondness, Cond.methodLink RL 39 yX13_writer, Cond.instanceMethod yX13_writer]
def wsL_law0_r31 : List Cond := [Cond.selects RX13 yX13_writer yX13_writer, Cond.code yX13_writer cX13_writer 3 (some .int), Cond.methodLink RX13 375 yX13_isWriter, Cond.instanceMethod yX13_isWriter, Cond.selects RX13 yX13_isWriter yX13_isWriter, Cond.code yX13_isWriter cX13_isWriter 2 (some .boolean), Cond.methodLink RL 40 yX12_word, Cond.instanceMethod yX12_word, Cond.selects RX12 yX12_word yX12_word, Cond.code yX12_word cX12_word 3 (some .int), Cond.methodLink RX12 135 yX7_hasWord, Cond.methodLink RX12 153 yX12_likelyNow, Cond.instanceMethod yX12_likelyNow, Cond.selects RX12 yX12_likelyNow yX12_likelyNow, Cond.code yX12_likelyNow cX12_likelyNow 3 (some .int), Cond.methodLink RX12 156 yX7_foldOf, Cond.instanceMethod yX7_foldOf, Cond.selects RX7 yX7_foldOf yX7_foldOf, Cond.code yX7_foldOf cX7_foldOf 2 (some .int), Cond.methodLink RX12 162 yX4_weighNext, Cond.instanceMethod yX4_weighNext, Cond.selects RX4 yX4_weighNext yX4_weighNext, Cond.code yX4_weighNext cX4_weighNext 5 (some .int), Cond.methodLink RX4 49 yX10_stripAt]
def wsL_law0_r32 : List Cond := [Cond.instanceMethod yX10_stripAt, Cond.selects RX10 yX10_stripAt yX10_stripAt, Cond.code yX10_stripAt cX10_stripAt 2 (some .int), Cond.methodLink RX4 52 yX7_goodOfWord, Cond.instanceMethod yX7_goodOfWord, Cond.selects RX7 yX7_goodOfWord yX7_goodOfWord, Cond.code yX7_goodOfWord cX7_goodOfWord 2 (some .int), Cond.methodLink RX4 58 yX7_writerAt, Cond.instanceMethod yX7_writerAt, Cond.selects RX7 yX7_writerAt yX7_writerAt, Cond.code yX7_writerAt cX7_writerAt 3 (some .int), Cond.methodLink RX4 62 yX4_weighBehind, Cond.instanceMethod yX4_weighBehind, Cond.selects RX4 yX4_weighBehind yX4_weighBehind, Cond.code yX4_weighBehind cX4_weighBehind 10 none, Cond.methodLink RX4 31 yX7_foldOf, Cond.methodLink RX4 37 yX10_leftOf, Cond.instanceMethod yX10_leftOf, Cond.selects RX10 yX10_leftOf yX10_leftOf, Cond.code yX10_leftOf cX10_leftOf 2 (some .int), Cond.methodLink RX4 42 yX7_likely, Cond.instanceMethod yX7_likely, Cond.selects RX7 yX7_likely yX7_likely, Cond.code yX7_likely cX7_likely 8 (some .int)]
def wsL_law0_r33 : List Cond := [Cond.methodLink RX7 107 Lib.Math.max.name, Cond.methodLink RX7 88 yX7_kindOf, Cond.methodLink RX7 91 yX7_fondness, Cond.methodLink RX7 95 yX1_isTold, Cond.methodLink RX7 99 yX1_setFact, Cond.instanceMethod yX1_setFact, Cond.selects RX1 yX1_setFact yX1_setFact, Cond.code yX1_setFact cX1_setFact 3 none, Cond.methodLink RX7 103 yX1_held, Cond.instanceMethod yX1_held, Cond.selects RX1 yX1_held yX1_held, Cond.code yX1_held cX1_held 4 (some .int), Cond.methodLink RX1 42 Lib.Math.min.name, Cond.methodLink RX1 48 Lib.Math.max.name, Cond.methodLink RX1 34 yX1_factAt, Cond.instanceMethod yX1_factAt, Cond.selects RX1 yX1_factAt yX1_factAt, Cond.code yX1_factAt cX1_factAt 2 (some .int), Cond.methodLink RX1 38 yX1_joined, Cond.static yX1_joined, Cond.code yX1_joined cX1_joined 3 (some .int), Cond.methodLink RX4 66 yX4_totalBehind, Cond.instanceMethod yX4_totalBehind, Cond.selects RX4 yX4_totalBehind yX4_totalBehind]
def wsL_law0_r34 : List Cond := [Cond.code yX4_totalBehind cX4_totalBehind 2 (some .int), Cond.methodLink RX12 166 yX4_likelyBehind, Cond.instanceMethod yX4_likelyBehind, Cond.selects RX4 yX4_likelyBehind yX4_likelyBehind, Cond.code yX4_likelyBehind cX4_likelyBehind 4 (some .int), Cond.methodLink RL 43 yX13_word, Cond.instanceMethod yX13_word, Cond.selects RX13 yX13_word yX13_word, Cond.code yX13_word cX13_word 3 (some .int), Cond.methodLink RX13 378 yX13_isTold, Cond.instanceMethod yX13_isTold, Cond.selects RX13 yX13_isTold yX13_isTold, Cond.code yX13_isTold cX13_isTold 2 (some .boolean), Cond.methodLink RX13 381 yX13_likelyNow, Cond.instanceMethod yX13_likelyNow, Cond.selects RX13 yX13_likelyNow yX13_likelyNow, Cond.code yX13_likelyNow cX13_likelyNow 2 (some .int), Cond.methodLink RX13 366 yX13_writerOf, Cond.instanceMethod yX13_writerOf, Cond.selects RX13 yX13_writerOf yX13_writerOf, Cond.code yX13_writerOf cX13_writerOf 3 (some .int), Cond.methodLink RX13 369 yX13_aheadOf, Cond.instanceMethod yX13_aheadOf, Cond.selects RX13 yX13_aheadOf yX13_aheadOf]
def wsL_law0_r35 : List Cond := [Cond.code yX13_aheadOf cX13_aheadOf 2 (some .int), Cond.methodLink RX13 372 yX13_likelyBy, Cond.instanceMethod yX13_likelyBy, Cond.selects RX13 yX13_likelyBy yX13_likelyBy, Cond.code yX13_likelyBy cX13_likelyBy 7 (some .int), Cond.methodLink RX13 360 Lib.Math.max.name, Cond.methodLink RX13 353 yX13_worked, Cond.instanceMethod yX13_worked, Cond.selects RX13 yX13_worked yX13_worked, Cond.code yX13_worked cX13_worked 6 (some .int), Cond.methodLink RX13 227 yX13_opens, Cond.instanceMethod yX13_opens, Cond.selects RX13 yX13_opens yX13_opens, Cond.code yX13_opens cX13_opens 2 none, Cond.methodLink RX13 224 yX13_sums, Cond.instanceMethod yX13_sums, Cond.selects RX13 yX13_sums yX13_sums, Cond.code yX13_sums cX13_sums 2 none, Cond.methodLink RX13 230 yX13_tests, Cond.instanceMethod yX13_tests, Cond.selects RX13 yX13_tests yX13_tests, Cond.code yX13_tests cX13_tests 3 none, Cond.methodLink RX13 356 yX13_between, Cond.static yX13_between]
def wsL_law0_r36 : List Cond := [Cond.code yX13_between cX13_between 3 (some .int), Cond.methodLink RL 44 yX12_strip, Cond.instanceMethod yX12_strip, Cond.selects RX12 yX12_strip yX12_strip, Cond.code yX12_strip cX12_strip 2 (some .int), Cond.methodLink RX12 169 yX10_stripAt, Cond.methodLink RL 48 yX13_strip, Cond.instanceMethod yX13_strip, Cond.selects RX13 yX13_strip yX13_strip, Cond.code yX13_strip cX13_strip 2 (some .int), Cond.methodLink RL 49 yX12_spike, Cond.instanceMethod yX12_spike, Cond.selects RX12 yX12_spike yX12_spike, Cond.code yX12_spike cX12_spike 3 (some .int), Cond.methodLink RX12 175 yX10_spikeAt, Cond.instanceMethod yX10_spikeAt, Cond.selects RX10 yX10_spikeAt yX10_spikeAt, Cond.code yX10_spikeAt cX10_spikeAt 3 (some .int), Cond.methodLink RX10 43 yX10_hasWhole, Cond.instanceMethod yX10_hasWhole, Cond.selects RX10 yX10_hasWhole yX10_hasWhole, Cond.code yX10_hasWhole cX10_hasWhole 2 (some .boolean), Cond.methodLink RL 52 yX13_spike, Cond.instanceMethod yX13_spike]
def wsL_law0_r37 : List Cond := [Cond.selects RX13 yX13_spike yX13_spike, Cond.code yX13_spike cX13_spike 3 (some .int), Cond.methodLink RL 53 yX12_write, Cond.instanceMethod yX12_write, Cond.selects RX12 yX12_write yX12_write, Cond.code yX12_write cX12_write 3 (some .int), Cond.methodLink RX12 178 yX10_canPut, Cond.instanceMethod yX10_canPut, Cond.selects RX10 yX10_canPut yX10_canPut, Cond.code yX10_canPut cX10_canPut 3 (some .boolean), Cond.methodLink RX10 47 yX7_hasWord, Cond.methodLink RX10 50 yX7_foldOf, Cond.methodLink RX10 54 yX10_leftOf, Cond.methodLink RX12 182 yX3_keep, Cond.instanceMethod yX3_keep, Cond.selects RX3 yX3_keep yX3_keep, Cond.code yX3_keep cX3_keep 2 none, Cond.methodLink RX3 25 yJ9_floorMod_7cf53, Cond.static yJ9_floorMod_7cf53, Cond.initialized RJ9, Cond.code yJ9_floorMod_7cf53 cJ9_floorMod_7cf53 3 (some .int), Cond.methodLink RX3 31 yX10_copyFrom, Cond.instanceMethod yX10_copyFrom, Cond.selects RX10 yX10_copyFrom yX10_copyFrom]
def wsL_law0_r38 : List Cond := [Cond.code yX10_copyFrom cX10_copyFrom 2 none, Cond.methodLink RX12 186 yX10_put, Cond.instanceMethod yX10_put, Cond.selects RX10 yX10_put yX10_put, Cond.code yX10_put cX10_put 3 none, Cond.methodLink RX10 57 yX10_canPut, Cond.methodLink RX10 64 yX7_goodOf, Cond.instanceMethod yX7_goodOf, Cond.selects RX7 yX7_goodOf yX7_goodOf, Cond.code yX7_goodOf cX7_goodOf 9 (some .int), Cond.methodLink RX7 115 Lib.Math.min.name, Cond.methodLink RX7 112 yX7_goodOfWord, Cond.methodLink RX10 68 yX10_putOnSpike, Cond.instanceMethod yX10_putOnSpike, Cond.selects RX10 yX10_putOnSpike yX10_putOnSpike, Cond.code yX10_putOnSpike cX10_putOnSpike 1 none, Cond.methodLink RX10 74 yX10_closeGap, Cond.instanceMethod yX10_closeGap, Cond.selects RX10 yX10_closeGap yX10_closeGap, Cond.code yX10_closeGap cX10_closeGap 3 none, Cond.methodLink RX10 71 yX7_seatBehind, Cond.instanceMethod yX7_seatBehind, Cond.selects RX7 yX7_seatBehind yX7_seatBehind, Cond.code yX7_seatBehind cX7_seatBehind 2 (some .int)]
def wsL_law0_r39 : List Cond := [Cond.methodLink RL 56 yX13_write, Cond.instanceMethod yX13_write, Cond.selects RX13 yX13_write yX13_write, Cond.code yX13_write cX13_write 2 (some .int), Cond.methodLink RX13 403 yX13_canWrite, Cond.instanceMethod yX13_canWrite, Cond.selects RX13 yX13_canWrite yX13_canWrite, Cond.code yX13_canWrite cX13_canWrite 2 (some .boolean), Cond.methodLink RX13 406 yX13_keeps, Cond.instanceMethod yX13_keeps, Cond.selects RX13 yX13_keeps yX13_keeps, Cond.code yX13_keeps cX13_keeps 2 none, Cond.methodLink RX13 384 yX13_copies, Cond.static yX13_copies, Cond.code yX13_copies cX13_copies 5 none, Cond.methodLink RX13 409 yX13_laysWord, Cond.instanceMethod yX13_laysWord, Cond.selects RX13 yX13_laysWord yX13_laysWord, Cond.code yX13_laysWord cX13_laysWord 2 none, Cond.methodLink RX13 397 yX13_ends, Cond.instanceMethod yX13_ends, Cond.selects RX13 yX13_ends yX13_ends, Cond.code yX13_ends cX13_ends 4 none, Cond.fieldLink RX13 391 "FoldedRealmModel" "goodCame" "I"]
def wsL_law0_r40 : List Cond := [Cond.methodLink RX13 388 yX13_doesBy, Cond.instanceMethod yX13_doesBy, Cond.selects RX13 yX13_doesBy yX13_doesBy, Cond.code yX13_doesBy cX13_doesBy 4 (some .int), Cond.methodLink RX13 394 yX13_fallsOff, Cond.instanceMethod yX13_fallsOff, Cond.selects RX13 yX13_fallsOff yX13_fallsOff, Cond.code yX13_fallsOff cX13_fallsOff 3 none, Cond.methodLink RL 57 yX12_pass, Cond.instanceMethod yX12_pass, Cond.selects RX12 yX12_pass yX12_pass, Cond.code yX12_pass cX12_pass 2 (some .int), Cond.methodLink RX12 190 yX10_canMoveSeat, Cond.instanceMethod yX10_canMoveSeat, Cond.selects RX10 yX10_canMoveSeat yX10_canMoveSeat, Cond.code yX10_canMoveSeat cX10_canMoveSeat 2 (some .boolean), Cond.methodLink RX12 194 yX10_moveSeat, Cond.instanceMethod yX10_moveSeat, Cond.selects RX10 yX10_moveSeat yX10_moveSeat, Cond.code yX10_moveSeat cX10_moveSeat 2 none, Cond.methodLink RL 60 yX13_pass, Cond.instanceMethod yX13_pass, Cond.selects RX13 yX13_pass yX13_pass, Cond.code yX13_pass cX13_pass 1 (some .int)]
def wsL_law0_r41 : List Cond := [Cond.methodLink RX13 412 yX13_canPass, Cond.instanceMethod yX13_canPass, Cond.selects RX13 yX13_canPass yX13_canPass, Cond.code yX13_canPass cX13_canPass 1 (some .boolean), Cond.methodLink RL 61 yX12_burn, Cond.instanceMethod yX12_burn, Cond.selects RX12 yX12_burn yX12_burn, Cond.code yX12_burn cX12_burn 3 (some .int), Cond.methodLink RX12 200 yX10_hasWhole, Cond.methodLink RX12 203 yX10_takeDown, Cond.instanceMethod yX10_takeDown, Cond.selects RX10 yX10_takeDown yX10_takeDown, Cond.code yX10_takeDown cX10_takeDown 5 none, Cond.methodLink RX10 85 Lib.Math.min.name, Cond.methodLink RX10 81 yX10_spikeAt, Cond.methodLink RL 64 yX13_burn, Cond.instanceMethod yX13_burn, Cond.selects RX13 yX13_burn yX13_burn, Cond.code yX13_burn cX13_burn 2 (some .int), Cond.methodLink RX13 415 yX13_burns, Cond.instanceMethod yX13_burns, Cond.selects RX13 yX13_burns yX13_burns, Cond.code yX13_burns cX13_burns 4 none, Cond.methodLink RX13 400 Lib.Math.min.name]
def wsL_law0_r42 : List Cond := [Cond.methodLink RL 65 yX12_undo, Cond.instanceMethod yX12_undo, Cond.selects RX12 yX12_undo yX12_undo, Cond.code yX12_undo cX12_undo 1 (some .boolean), Cond.methodLink RX12 209 yX3_giveBack, Cond.instanceMethod yX3_giveBack, Cond.selects RX3 yX3_giveBack yX3_giveBack, Cond.code yX3_giveBack cX3_giveBack 2 (some .boolean), Cond.methodLink RL 69 yX13_undo, Cond.instanceMethod yX13_undo, Cond.selects RX13 yX13_undo yX13_undo, Cond.code yX13_undo cX13_undo 1 (some .boolean), Cond.methodLink RL 70 yX12_judged, Cond.instanceMethod yX12_judged, Cond.selects RX12 yX12_judged yX12_judged, Cond.code yX12_judged cX12_judged 7 (some .int), Cond.methodLink RX12 213 yX10_begin, Cond.methodLink RX12 215 yX5_lineAt, Cond.instanceMethod yX5_lineAt, Cond.selects RX5 yX5_lineAt yX5_lineAt, Cond.code yX5_lineAt cX5_lineAt 2 (some .int), Cond.methodLink RX12 218 yX10_follow, Cond.instanceMethod yX10_follow, Cond.selects RX10 yX10_follow yX10_follow]
def wsL_law0_r43 : List Cond := [Cond.code yX10_follow cX10_follow 4 (some .boolean), Cond.methodLink RX10 90 yX10_canMoveSeat, Cond.methodLink RX10 94 yX10_moveSeat, Cond.methodLink RX10 98 yX10_takeDown, Cond.methodLink RX10 102 yX10_put, Cond.methodLink RX12 221 yX10_cameBy, Cond.instanceMethod yX10_cameBy, Cond.selects RX10 yX10_cameBy yX10_cameBy, Cond.code yX10_cameBy cX10_cameBy 2 (some .boolean), Cond.methodLink RX12 224 yX10_lastClashes, Cond.instanceMethod yX10_lastClashes, Cond.selects RX10 yX10_lastClashes yX10_lastClashes, Cond.code yX10_lastClashes cX10_lastClashes 2 (some .boolean), Cond.methodLink RX10 105 yX10_foesOf, Cond.instanceMethod yX10_foesOf, Cond.selects RX10 yX10_foesOf yX10_foesOf, Cond.code yX10_foesOf cX10_foesOf 5 (some .int), Cond.methodLink RX10 113 yX10_areClashing, Cond.instanceMethod yX10_areClashing, Cond.selects RX10 yX10_areClashing yX10_areClashing, Cond.code yX10_areClashing cX10_areClashing 6 (some .boolean), Cond.methodLink RX10 109 yX7_doClash, Cond.methodLink RL 73 yX13_judged, Cond.instanceMethod yX13_judged]
def wsL_law0_r44 : List Cond := [Cond.selects RX13 yX13_judged yX13_judged, Cond.code yX13_judged cX13_judged 6 (some .int), Cond.methodLink RX13 424 yX13_goes, Cond.instanceMethod yX13_goes, Cond.selects RX13 yX13_goes yX13_goes, Cond.code yX13_goes cX13_goes 3 (some .boolean), Cond.methodLink RX13 427 yX13_doesLastClash, Cond.instanceMethod yX13_doesLastClash, Cond.selects RX13 yX13_doesLastClash yX13_doesLastClash, Cond.code yX13_doesLastClash cX13_doesLastClash 2 (some .boolean), Cond.methodLink RX13 421 yX13_doClash, Cond.instanceMethod yX13_doClash, Cond.selects RX13 yX13_doClash yX13_doClash, Cond.code yX13_doClash cX13_doClash 6 (some .boolean), Cond.methodLink RX13 418 yX13_wordsOf, Cond.instanceMethod yX13_wordsOf, Cond.selects RX13 yX13_wordsOf yX13_wordsOf, Cond.code yX13_wordsOf cX13_wordsOf 4 (some .int), Cond.methodLink RL 74 yX12_comes, Cond.instanceMethod yX12_comes, Cond.selects RX12 yX12_comes yX12_comes, Cond.code yX12_comes cX12_comes 3 (some .int), Cond.methodLink RX12 229 yX7_isRow, Cond.instanceMethod yX7_isRow]
def wsL_law0_r45 : List Cond := [Cond.selects RX7 yX7_isRow yX7_isRow, Cond.code yX7_isRow cX7_isRow 6 (some .boolean), Cond.methodLink RX7 79 yX7_bitsOfFold, Cond.instanceMethod yX7_bitsOfFold, Cond.selects RX7 yX7_bitsOfFold yX7_bitsOfFold, Cond.code yX7_bitsOfFold cX7_bitsOfFold 4 (some .int), Cond.methodLink RX7 83 yJ6_bitCount_0f7a4, Cond.static yJ6_bitCount_0f7a4, Cond.initialized RJ6, Cond.code yJ6_bitCount_0f7a4 cJ6_bitCount_0f7a4 1 (some .int), Cond.constant RJ6 265 (1431655765), Cond.constant RJ6 266 (858993459), Cond.constant RJ6 267 (252645135), Cond.methodLink RX12 233 yX4_weighAll, Cond.instanceMethod yX4_weighAll, Cond.selects RX4 yX4_weighAll yX4_weighAll, Cond.code yX4_weighAll cX4_weighAll 9 none, Cond.methodLink RX12 237 yX4_chanceOf, Cond.instanceMethod yX4_chanceOf, Cond.selects RX4 yX4_chanceOf yX4_chanceOf, Cond.code yX4_chanceOf cX4_chanceOf 11 (some .int), Cond.methodLink RX4 75 yX7_wordOfFold, Cond.instanceMethod yX7_wordOfFold, Cond.selects RX7 yX7_wordOfFold yX7_wordOfFold]
def wsL_law0_r46 : List Cond := [Cond.code yX7_wordOfFold cX7_wordOfFold 4 (some .int), Cond.methodLink RX4 72 yX4_likelyBehind, Cond.methodLink RX4 78 yX4_inMillionths, Cond.static yX4_inMillionths, Cond.code yX4_inMillionths cX4_inMillionths 4 (some .int), Cond.constantLong RX4 82 (1000000), Cond.methodLink RL 77 yX13_comes, Cond.instanceMethod yX13_comes, Cond.selects RX13 yX13_comes yX13_comes, Cond.code yX13_comes cX13_comes 5 (some .int), Cond.fieldLink RX13 430 "FoldedRealmModel" "above" "J", Cond.fieldLink RX13 433 "FoldedRealmModel" "below" "J", Cond.constantLong RX13 448 (1000000), Cond.methodLink RX13 439 yX13_bits, Cond.static yX13_bits, Cond.code yX13_bits cX13_bits 3 (some .int), Cond.methodLink RX13 442 yX13_wordIn, Cond.instanceMethod yX13_wordIn, Cond.selects RX13 yX13_wordIn yX13_wordIn, Cond.code yX13_wordIn cX13_wordIn 5 (some .int), Cond.methodLink RX13 445 yX13_goesOn, Cond.instanceMethod yX13_goesOn, Cond.selects RX13 yX13_goesOn yX13_goesOn, Cond.code yX13_goesOn cX13_goesOn 5 (some .boolean)]
def wsL_law0_r47 : List Cond := [Cond.methodLink RX13 436 yX13_allLikely, Cond.instanceMethod yX13_allLikely, Cond.selects RX13 yX13_allLikely yX13_allLikely, Cond.code yX13_allLikely cX13_allLikely 6 (some .int), Cond.methodLink RL 78 yX12_best, Cond.instanceMethod yX12_best, Cond.selects RX12 yX12_best yX12_best, Cond.code yX12_best cX12_best 4 (some .int), Cond.methodLink RX12 241 yX4_gatherRows, Cond.instanceMethod yX4_gatherRows, Cond.selects RX4 yX4_gatherRows yX4_gatherRows, Cond.code yX4_gatherRows cX4_gatherRows 5 none, Cond.fieldLink RX4 88 "FoldedRealm$Odds" "rows" "I", Cond.methodLink RX4 84 yX4_weighAll, Cond.methodLink RX4 91 yX4_extend, Cond.instanceMethod yX4_extend, Cond.selects RX4 yX4_extend yX4_extend, Cond.code yX4_extend cX4_extend 10 none, Cond.methodLink RX4 95 yX4_keepRow, Cond.instanceMethod yX4_keepRow, Cond.selects RX4 yX4_keepRow yX4_keepRow, Cond.code yX4_keepRow cX4_keepRow 5 none, Cond.methodLink RX4 99 arraycopyName, Cond.methodLink RX12 245 yX4_greatestRow]
def wsL_law0_r48 : List Cond := [Cond.instanceMethod yX4_greatestRow, Cond.selects RX4 yX4_greatestRow yX4_greatestRow, Cond.code yX4_greatestRow cX4_greatestRow 3 (some .int), Cond.methodLink RX12 249 yX4_millionths, Cond.instanceMethod yX4_millionths, Cond.selects RX4 yX4_millionths yX4_millionths, Cond.code yX4_millionths cX4_millionths 2 (some .int), Cond.methodLink RX4 105 yX4_hasRow, Cond.instanceMethod yX4_hasRow, Cond.selects RX4 yX4_hasRow yX4_hasRow, Cond.code yX4_hasRow cX4_hasRow 2 (some .boolean), Cond.methodLink RX12 252 yX4_wordOfRow, Cond.instanceMethod yX4_wordOfRow, Cond.selects RX4 yX4_wordOfRow yX4_wordOfRow, Cond.code yX4_wordOfRow cX4_wordOfRow 4 (some .int), Cond.methodLink RL 81 yX13_best, Cond.instanceMethod yX13_best, Cond.selects RX13 yX13_best yX13_best, Cond.code yX13_best cX13_best 2 (some .int), Cond.fieldLink RX13 453 "FoldedRealmModel" "bestAbove" "J", Cond.fieldLink RX13 450 "FoldedRealmModel" "bestBelow" "J", Cond.methodLink RX13 469 yX13_laysRows, Cond.instanceMethod yX13_laysRows, Cond.selects RX13 yX13_laysRows yX13_laysRows]
def wsL_law0_r49 : List Cond := [Cond.code yX13_laysRows cX13_laysRows 4 none, Cond.fieldLink RX13 456 "FoldedRealmModel" "worstDoes" "I", Cond.fieldLink RX13 459 "FoldedRealmModel" "meanDoes" "J", Cond.methodLink RX13 465 yX13_rows, Cond.instanceMethod yX13_rows, Cond.selects RX13 yX13_rows yX13_rows, Cond.code yX13_rows cX13_rows 10 none, Cond.methodLink RX13 462 yX13_endsRow, Cond.instanceMethod yX13_endsRow, Cond.selects RX13 yX13_endsRow yX13_endsRow, Cond.code yX13_endsRow cX13_endsRow 4 none, Cond.methodLink RL 82 yX12_worst, Cond.instanceMethod yX12_worst, Cond.selects RX12 yX12_worst yX12_worst, Cond.code yX12_worst cX12_worst 5 (some .int), Cond.methodLink RX12 261 yX7_goodOf, Cond.methodLink RL 85 yX13_worst, Cond.instanceMethod yX13_worst, Cond.selects RX13 yX13_worst yX13_worst, Cond.code yX13_worst cX13_worst 1 (some .int), Cond.methodLink RL 86 yX12_mean, Cond.instanceMethod yX12_mean, Cond.selects RX12 yX12_mean yX12_mean, Cond.code yX12_mean cX12_mean 7 (some .int)]
def wsL_law0_r50 : List Cond := [Cond.constantLong RX12 265 (1000), Cond.methodLink RL 89 yX13_mean, Cond.instanceMethod yX13_mean, Cond.selects RX13 yX13_mean yX13_mean, Cond.code yX13_mean cX13_mean 1 (some .int), Cond.constantLong RX13 472 (1000), Cond.methodLink RL 90 yX12_aim, Cond.instanceMethod yX12_aim, Cond.selects RX12 yX12_aim yX12_aim, Cond.code yX12_aim cX12_aim 7 (some .int), Cond.methodLink RX12 267 yX8_pourBehind, Cond.instanceMethod yX8_pourBehind, Cond.selects RX8 yX8_pourBehind yX8_pourBehind, Cond.code yX8_pourBehind cX8_pourBehind 5 none, Cond.constant RX8 33 (1000000), Cond.methodLink RX8 28 yX8_empty, Cond.instanceMethod yX8_empty, Cond.selects RX8 yX8_empty yX8_empty, Cond.code yX8_empty cX8_empty 2 none, Cond.methodLink RX8 15 yX7_foldOf, Cond.methodLink RX8 42 yX8_flow, Cond.instanceMethod yX8_flow, Cond.selects RX8 yX8_flow yX8_flow, Cond.code yX8_flow cX8_flow 5 none]
def wsL_law0_r51 : List Cond := [Cond.methodLink RX8 25 yX8_of, Cond.instanceMethod yX8_of, Cond.selects RX8 yX8_of yX8_of, Cond.code yX8_of cX8_of 2 (some .int), Cond.methodLink RX8 34 yX8_share, Cond.instanceMethod yX8_share, Cond.selects RX8 yX8_share yX8_share, Cond.code yX8_share cX8_share 8 none, Cond.methodLink RX8 46 yX4_totalBehind, Cond.methodLink RX8 49 yX4_likelyBehind, Cond.methodLink RX12 271 yX8_of, Cond.methodLink RL 93 yX13_aim, Cond.instanceMethod yX13_aim, Cond.selects RX13 yX13_aim yX13_aim, Cond.code yX13_aim cX13_aim 7 (some .int), Cond.constant RX13 474 (1000000), Cond.methodLink RX13 481 yX13_noneOnly, Cond.instanceMethod yX13_noneOnly, Cond.selects RX13 yX13_noneOnly yX13_noneOnly, Cond.code yX13_noneOnly cX13_noneOnly 2 none, Cond.methodLink RX13 484 yX13_sharesOut, Cond.instanceMethod yX13_sharesOut, Cond.selects RX13 yX13_sharesOut yX13_sharesOut, Cond.code yX13_sharesOut cX13_sharesOut 7 (some .int)]
def wsL_law0_r52 : List Cond := [Cond.methodLink RX13 475 yX13_sharesFrom, Cond.instanceMethod yX13_sharesFrom, Cond.selects RX13 yX13_sharesFrom yX13_sharesFrom, Cond.code yX13_sharesFrom cX13_sharesFrom 8 none, Cond.methodLink RX13 478 yX13_goesOnAt, Cond.instanceMethod yX13_goesOnAt, Cond.selects RX13 yX13_goesOnAt yX13_goesOnAt, Cond.code yX13_goesOnAt cX13_goesOnAt 3 (some .boolean), Cond.methodLink RL 94 yX12_meet, Cond.instanceMethod yX12_meet, Cond.selects RX12 yX12_meet yX12_meet, Cond.code yX12_meet cX12_meet 11 (some .int), Cond.constantLong RX12 277 (1000000), Cond.methodLink RX12 274 yX7_isWritten, Cond.instanceMethod yX7_isWritten, Cond.selects RX7 yX7_isWritten yX7_isWritten, Cond.code yX7_isWritten cX7_isWritten 2 (some .boolean), Cond.methodLink RX12 279 yX12_sharedBy, Cond.instanceMethod yX12_sharedBy, Cond.selects RX12 yX12_sharedBy yX12_sharedBy, Cond.code yX12_sharedBy cX12_sharedBy 3 (some .int), Cond.methodLink RX12 285 yX8_pour, Cond.instanceMethod yX8_pour, Cond.selects RX8 yX8_pour yX8_pour]
def wsL_law0_r53 : List Cond := [Cond.code yX8_pour cX8_pour 5 none, Cond.methodLink RX8 38 yX8_keepAlone, Cond.instanceMethod yX8_keepAlone, Cond.selects RX8 yX8_keepAlone yX8_keepAlone, Cond.code yX8_keepAlone cX8_keepAlone 6 none, Cond.methodLink RX8 53 yX7_bitsOfFold, Cond.methodLink RX12 288 yX8_atLast, Cond.instanceMethod yX8_atLast, Cond.selects RX8 yX8_atLast yX8_atLast, Cond.code yX8_atLast cX8_atLast 4 (some .int), Cond.methodLink RX12 282 yX7_seatBehind, Cond.methodLink RL 98 yX13_meet, Cond.instanceMethod yX13_meet, Cond.selects RX13 yX13_meet yX13_meet, Cond.code yX13_meet cX13_meet 6 (some .int), Cond.methodLink RL 99 yX12_clashes, Cond.instanceMethod yX12_clashes, Cond.selects RX12 yX12_clashes yX12_clashes, Cond.code yX12_clashes cX12_clashes 1 (some .int), Cond.methodLink RX12 291 yX10_clashCount, Cond.instanceMethod yX10_clashCount, Cond.selects RX10 yX10_clashCount yX10_clashCount, Cond.code yX10_clashCount cX10_clashCount 4 (some .int), Cond.methodLink RX10 117 yJ6_bitCount_0f7a4]
def wsL_law0_r54 : List Cond := [Cond.methodLink RL 102 yX13_clashes, Cond.instanceMethod yX13_clashes, Cond.selects RX13 yX13_clashes yX13_clashes, Cond.code yX13_clashes cX13_clashes 1 (some .int), Cond.methodLink RX13 487 yX13_allWholes, Cond.instanceMethod yX13_allWholes, Cond.selects RX13 yX13_allWholes yX13_allWholes, Cond.code yX13_allWholes cX13_allWholes 1 (some .int), Cond.methodLink RX13 490 yX13_clashesOf, Cond.instanceMethod yX13_clashesOf, Cond.selects RX13 yX13_clashesOf yX13_clashesOf, Cond.code yX13_clashesOf cX13_clashesOf 5 (some .int), Cond.methodLink RL 103 yX12_fire, Cond.instanceMethod yX12_fire, Cond.selects RX12 yX12_fire yX12_fire, Cond.code yX12_fire cX12_fire 7 (some .int), Cond.methodLink RX12 294 yX10_foesOf, Cond.methodLink RX12 298 yJ6_bitCount_0f7a4, Cond.methodLink RX12 303 yX12_isPeaceWithout, Cond.instanceMethod yX12_isPeaceWithout, Cond.selects RX12 yX12_isPeaceWithout yX12_isPeaceWithout, Cond.code yX12_isPeaceWithout cX12_isPeaceWithout 3 (some .boolean), Cond.methodLink RL 106 yX13_fire, Cond.instanceMethod yX13_fire]
def wsL_law0_r55 : List Cond := [Cond.selects RX13 yX13_fire yX13_fire, Cond.code yX13_fire cX13_fire 4 (some .int), Cond.methodLink RL 107 yX12_read, Cond.instanceMethod yX12_read, Cond.selects RX12 yX12_read yX12_read, Cond.code yX12_read cX12_read 2 (some .boolean), Cond.methodLink RL 111 yX13_read, Cond.instanceMethod yX13_read, Cond.selects RX13 yX13_read yX13_read, Cond.code yX13_read cX13_read 2 (some .boolean), Cond.methodLink RL 112 yX12_began, Cond.instanceMethod yX12_began, Cond.selects RX12 yX12_began yX12_began, Cond.code yX12_began cX12_began 3 (some .int), Cond.methodLink RL 115 yX13_began, Cond.instanceMethod yX13_began, Cond.selects RX13 yX13_began yX13_began, Cond.code yX13_began cX13_began 1 (some .int), Cond.methodLink RX13 496 yX13_beganBy, Cond.instanceMethod yX13_beganBy, Cond.selects RX13 yX13_beganBy yX13_beganBy, Cond.code yX13_beganBy cX13_beganBy 3 (some .int), Cond.methodLink RX13 493 yX13_laysOnly, Cond.instanceMethod yX13_laysOnly]
def wsL_law0_r56 : List Cond := [Cond.selects RX13 yX13_laysOnly yX13_laysOnly, Cond.code yX13_laysOnly cX13_laysOnly 3 (some .boolean), Cond.methodLink RL 116 yX12_sure, Cond.instanceMethod yX12_sure, Cond.selects RX12 yX12_sure yX12_sure, Cond.code yX12_sure cX12_sure 5 (some .int), Cond.methodLink RX12 315 yX12_began, Cond.methodLink RL 119 yX13_sure, Cond.instanceMethod yX13_sure, Cond.selects RX13 yX13_sure yX13_sure, Cond.code yX13_sure cX13_sure 5 (some .int), Cond.methodLink RL 120 yX12_ask, Cond.instanceMethod yX12_ask, Cond.selects RX12 yX12_ask yX12_ask, Cond.code yX12_ask cX12_ask 6 (some .int), Cond.methodLink RX12 318 yX7_bitsOfFold, Cond.methodLink RX12 321 yX12_likeliestBy, Cond.instanceMethod yX12_likeliestBy, Cond.selects RX12 yX12_likeliestBy yX12_likeliestBy, Cond.code yX12_likeliestBy cX12_likeliestBy 6 (some .int), Cond.methodLink RX12 324 yX7_writerAt, Cond.methodLink RX12 327 yX4_weighBehind, Cond.methodLink RX12 331 yX4_likeliestAtBeginning, Cond.instanceMethod yX4_likeliestAtBeginning]
def wsL_law0_r57 : List Cond := [Cond.selects RX4 yX4_likeliestAtBeginning yX4_likeliestAtBeginning, Cond.code yX4_likeliestAtBeginning cX4_likeliestAtBeginning 6 (some .int), Cond.methodLink RL 123 yX13_ask, Cond.instanceMethod yX13_ask, Cond.selects RX13 yX13_ask yX13_ask, Cond.code yX13_ask cX13_ask 8 (some .int), Cond.methodLink RX13 499 yX13_likeliest, Cond.instanceMethod yX13_likeliest, Cond.selects RX13 yX13_likeliest yX13_likeliest, Cond.code yX13_likeliest cX13_likeliest 7 (some .int), Cond.methodLink RL 124 yX12_spent, Cond.instanceMethod yX12_spent, Cond.selects RX12 yX12_spent yX12_spent, Cond.code yX12_spent cX12_spent 4 (some .int), Cond.methodLink RX12 334 yX10_copyFrom, Cond.methodLink RL 127 yX13_spent, Cond.instanceMethod yX13_spent, Cond.selects RX13 yX13_spent yX13_spent, Cond.code yX13_spent cX13_spent 4 (some .int), Cond.methodLink RL 128 yL_rests, Cond.static yL_rests, Cond.initialized RL, Cond.codeWith yL_rests cL_rests 7 (some .int) [(0, 14, 17, 13)], Cond.classLink RL 13 "java/util/NoSuchElementException"]
def wsL_law0_r58 : List Cond := [Cond.methodLink RL 7 yX12_rests, Cond.instanceMethod yX12_rests, Cond.selects RX12 yX12_rests yX12_rests, Cond.code yX12_rests cX12_rests 10 (some .int), Cond.classLink RX12 340 "java/util/NoSuchElementException", Cond.initialized "java/util/NoSuchElementException", Cond.methodLink RX12 337 yX12_isPrize, Cond.static yX12_isPrize, Cond.code yX12_isPrize cX12_isPrize 1 (some .boolean), Cond.methodLink RX12 347 yX12_prize, Cond.static yX12_prize, Cond.code yX12_prize cX12_prize 5 (some .int), Cond.methodLink RL 133 yX13_rests, Cond.instanceMethod yX13_rests, Cond.selects RX13 yX13_rests yX13_rests, Cond.code yX13_rests cX13_rests 9 (some .int), Cond.methodLink RX13 502 yX13_getsBy, Cond.static yX13_getsBy, Cond.code yX13_getsBy cX13_getsBy 5 (some .int), Cond.methodLink RL 134 yX13_thrown, Cond.instanceMethod yX13_thrown, Cond.selects RX13 yX13_thrown yX13_thrown, Cond.code yX13_thrown cX13_thrown 1 (some .int), Cond.methodLink RL 137 yX12_generations]
def wsL_law0_r59 : List Cond := [Cond.instanceMethod yX12_generations, Cond.selects RX12 yX12_generations yX12_generations, Cond.code yX12_generations cX12_generations 9 (some .int), Cond.constantLong RX12 353 (1103515245), Cond.constantLong RX12 355 (12345), Cond.constantLong RX12 357 (2147483648), Cond.constantLong RX12 359 (65536), Cond.methodLink RX12 361 yX4_drawnAtBeginning, Cond.instanceMethod yX4_drawnAtBeginning, Cond.selects RX4 yX4_drawnAtBeginning yX4_drawnAtBeginning, Cond.code yX4_drawnAtBeginning cX4_drawnAtBeginning 6 (some .int), Cond.methodLink RL 140 yX13_generations, Cond.instanceMethod yX13_generations, Cond.selects RX13 yX13_generations yX13_generations, Cond.code yX13_generations cX13_generations 7 (some .int), Cond.fieldLink RX13 506 "FoldedRealmModel" "g" "J", Cond.methodLink RX13 520 yX13_livesWord, Cond.instanceMethod yX13_livesWord, Cond.selects RX13 yX13_livesWord yX13_livesWord, Cond.code yX13_livesWord cX13_livesWord 5 (some .boolean), Cond.methodLink RX13 517 yX13_draws, Cond.instanceMethod yX13_draws, Cond.selects RX13 yX13_draws yX13_draws, Cond.code yX13_draws cX13_draws 2 (some .int)]
def wsL_law0_r60 : List Cond := [Cond.constantLong RX13 509 (1103515245), Cond.constantLong RX13 511 (12345), Cond.constantLong RX13 513 (2147483648), Cond.constantLong RX13 515 (65536), Cond.methodLink RL 141 yX12_mark, Cond.instanceMethod yX12_mark, Cond.selects RX12 yX12_mark yX12_mark, Cond.code yX12_mark cX12_mark 4 (some .boolean), Cond.methodLink RX12 364 yX5_copyFrom, Cond.instanceMethod yX5_copyFrom, Cond.selects RX5 yX5_copyFrom yX5_copyFrom, Cond.code yX5_copyFrom cX5_copyFrom 2 none, Cond.methodLink RX5 36 yX10_copyFrom, Cond.methodLink RX5 40 yX5_takeLines, Cond.methodLink RL 145 yX13_mark, Cond.instanceMethod yX13_mark, Cond.selects RX13 yX13_mark yX13_mark, Cond.code yX13_mark cX13_mark 5 (some .boolean), Cond.methodLink RX13 523 yX13_laysRead, Cond.instanceMethod yX13_laysRead, Cond.selects RX13 yX13_laysRead yX13_laysRead, Cond.code yX13_laysRead cX13_laysRead 4 none, Cond.methodLink RL 146 yX12_count, Cond.instanceMethod yX12_count]
def wsL_law0_r61 : List Cond := [Cond.selects RX12 yX12_count yX12_count, Cond.code yX12_count cX12_count 3 (some .int), Cond.methodLink RX12 367 yX10_leftTogether, Cond.instanceMethod yX10_leftTogether, Cond.selects RX10 yX10_leftTogether yX10_leftTogether, Cond.code yX10_leftTogether cX10_leftTogether 4 (some .int), Cond.methodLink RL 149 yX13_count, Cond.instanceMethod yX13_count, Cond.selects RX13 yX13_count yX13_count, Cond.code yX13_count cX13_count 2 (some .int), Cond.methodLink RX13 526 yX13_allLeft, Cond.instanceMethod yX13_allLeft, Cond.selects RX13 yX13_allLeft yX13_allLeft, Cond.code yX13_allLeft cX13_allLeft 3 (some .int)]
def wsL_law0 : List Cond := (wsL_law0_r1 ++ (wsL_law0_r2 ++ (wsL_law0_r3 ++ (wsL_law0_r4 ++ (wsL_law0_r5 ++ (wsL_law0_r6 ++ (wsL_law0_r7 ++ (wsL_law0_r8 ++ (wsL_law0_r9 ++ (wsL_law0_r10 ++ (wsL_law0_r11 ++ (wsL_law0_r12 ++ (wsL_law0_r13 ++ (wsL_law0_r14 ++ (wsL_law0_r15 ++ (wsL_law0_r16 ++ (wsL_law0_r17 ++ (wsL_law0_r18 ++ (wsL_law0_r19 ++ (wsL_law0_r20 ++ (wsL_law0_r21 ++ (wsL_law0_r22 ++ (wsL_law0_r23 ++ (wsL_law0_r24 ++ (wsL_law0_r25 ++ (wsL_law0_r26 ++ (wsL_law0_r27 ++ (wsL_law0_r28 ++ (wsL_law0_r29 ++ (wsL_law0_r30 ++ (wsL_law0_r31 ++ (wsL_law0_r32 ++ (wsL_law0_r33 ++ (wsL_law0_r34 ++ (wsL_law0_r35 ++ (wsL_law0_r36 ++ (wsL_law0_r37 ++ (wsL_law0_r38 ++ (wsL_law0_r39 ++ (wsL_law0_r40 ++ (wsL_law0_r41 ++ (wsL_law0_r42 ++ (wsL_law0_r43 ++ (wsL_law0_r44 ++ (wsL_law0_r45 ++ (wsL_law0_r46 ++ (wsL_law0_r47 ++ (wsL_law0_r48 ++ (wsL_law0_r49 ++ (wsL_law0_r50 ++ (wsL_law0_r51 ++ (wsL_law0_r52 ++ (wsL_law0_r53 ++ (wsL_law0_r54 ++ (wsL_law0_r55 ++ (wsL_law0_r56 ++ (wsL_law0_r57 ++ (wsL_law0_r58 ++ (wsL_law0_r59 ++ (wsL_law0_r60 ++ wsL_law0_r61)))))))))))))))))))))))))))))))))))))))))))))))))))))))))))) ++ wsX120 ++ wsX130 ++ wsX110 ++ wsX60 ++ wsX70 ++ wsX50 ++ wsX30 ++ wsX100 ++ wsX40 ++ wsX80 ++ wsX20 ++ wsX10 ++ ([] : List Cond)
def wsL_law : List Cond := wsL_law0 ++ (vx_atS RX12 344 "java/util/NoSuchElementException" ["java/lang/RuntimeException", "java/lang/Exception"]).filter goodWord
set_option maxRecDepth 20000 in
theorem wsL_law_in0 : ∀ w ∈ wsL_law0, w ∈ lw_tbl := fun w h => (goodIn_p wsL_law0 [141, 144, 149, 190, 196, 222, 228, 330, 336, 395, 417, 447, 456, 460, 1360, 1365, 504, 508, 1564, 512, 516, 520, 524, 528, 532, 536, 540, 545, 549, 553, 563, 567, 571, 577, 581, 584, 587, 592, 595, 598, 601, 605, 618, 626, 630, 634, 639, 644, 648, 652, 656, 662, 666, 677, 681, 685, 689, 693, 697, 701, 705, 709, 713, 717, 724, 721, 728, 732, 781, 748, 752, 758, 768, 785, 744, 740, 736, 791, 814, 819, 823, 1569, 1573, 1577, 1581, 1585, 1592, 1596, 1600, 1604, 1608, 1632, 1636, 1640, 1644, 1648, 1652, 1656, 1659, 1663, 1667, 1671, 1675, 1679, 1683, 1687, 1699, 1703, 1706, 827, 831, 835, 845, 848, 1710, 1714, 1718, 854, 859, 1722, 1726, 864, 869, 873, 877, 881, 885, 889, 893, 898, 902, 909, 913, 917, 920, 927, 931, 1730, 1734, 1738, 1742, 1746, 1750, 1754, 1758, 1762, 1766, 1769, 935, 1774, 940, 944, 948, 1778, 952, 956, 963, 966, 970, 974, 979, 985, 989, 993, 1782, 1786, 1790, 1793, 1797, 1801, 1805, 1809, 997, 1001, 1005, 1813, 1817, 1009, 1014, 1821, 1825, 1020, 1024, 1830, 1028, 1033, 1037, 1045, 1049, 1053, 1057, 1834, 1838, 1842, 1846, 1850, 1062, 1066, 1070, 1073, 1080, 1084, 1088, 1092, 1854, 1857, 1861, 1865, 1869, 1097, 1101, 1106, 1110, 1115, 1119, 1123, 1127, 1874, 1878, 1882, 1886, 1131, 1890, 1136, 1894, 1141, 1145, 1149, 1155, 1159, 1163, 1899, 1903, 1908, 1912, 1916, 1170, 1174, 1179, 1183, 1187, 1192, 1920, 1197, 1201, 1924, 1928, 1932, 1206, 1212, 1936, 1216, 1940, 1220, 1944, 1948, 1952, 1224, 1956, 1229, 1234, 1240, 1960, 1964, 1244, 1968, 1283, 1286, 1354, 1972, 1975, 1560, 1249, 1257, 1979, 1983, 1987, 1261, 1265, 1995, 1999, 1271, 1275, 2003, 2007] (by decide +kernel) (by decide +kernel) w h).1
theorem wsL_law_x0 : ∀ w ∈ (vx_atS RX12 344 "java/util/NoSuchElementException" ["java/lang/RuntimeException", "java/lang/Exception"]).filter goodWord, w ∈ lw_tbl := by decide +kernel
theorem wsL_law_in : ∀ w ∈ wsL_law, w ∈ lw_tbl := fun w h => (List.mem_append.mp h).elim (fun h => wsL_law_in0 w h) (fun h => wsL_law_x0 w h)
theorem inX0 : ∀ w ∈ wsX00, w ∈ lw_tbl := by decide +kernel
theorem inlX1 : ∀ w ∈ wsX10, w ∈ wsL_law := fun _ h => List.mem_append_left _ (List.mem_append_left _ (List.mem_append_right _ h))
theorem inX1 : ∀ w ∈ wsX10, w ∈ lw_tbl := fun w h => wsL_law_in w (inlX1 w h)
theorem inlX2 : ∀ w ∈ wsX20, w ∈ wsL_law := fun _ h => List.mem_append_left _ (List.mem_append_left _ (List.mem_append_left _ (List.mem_append_right _ h)))
theorem inX2 : ∀ w ∈ wsX20, w ∈ lw_tbl := fun w h => wsL_law_in w (inlX2 w h)
theorem inlX3 : ∀ w ∈ wsX30, w ∈ wsL_law := fun _ h => List.mem_append_left _ (List.mem_append_left _ (List.mem_append_left _ (List.mem_append_left _ (List.mem_append_left _ (List.mem_append_left _ (List.mem_append_left _ (List.mem_append_right _ h)))))))
theorem inX3 : ∀ w ∈ wsX30, w ∈ lw_tbl := fun w h => wsL_law_in w (inlX3 w h)
theorem inlX4 : ∀ w ∈ wsX40, w ∈ wsL_law := fun _ h => List.mem_append_left _ (List.mem_append_left _ (List.mem_append_left _ (List.mem_append_left _ (List.mem_append_left _ (List.mem_append_right _ h)))))
theorem inX4 : ∀ w ∈ wsX40, w ∈ lw_tbl := fun w h => wsL_law_in w (inlX4 w h)
theorem inlX5 : ∀ w ∈ wsX50, w ∈ wsL_law := fun _ h => List.mem_append_left _ (List.mem_append_left _ (List.mem_append_left _ (List.mem_append_left _ (List.mem_append_left _ (List.mem_append_left _ (List.mem_append_left _ (List.mem_append_left _ (List.mem_append_right _ h))))))))
theorem inX5 : ∀ w ∈ wsX50, w ∈ lw_tbl := fun w h => wsL_law_in w (inlX5 w h)
theorem inlX6 : ∀ w ∈ wsX60, w ∈ wsL_law := fun _ h => List.mem_append_left _ (List.mem_append_left _ (List.mem_append_left _ (List.mem_append_left _ (List.mem_append_left _ (List.mem_append_left _ (List.mem_append_left _ (List.mem_append_left _ (List.mem_append_left _ (List.mem_append_left _ (List.mem_append_right _ h))))))))))
theorem inX6 : ∀ w ∈ wsX60, w ∈ lw_tbl := fun w h => wsL_law_in w (inlX6 w h)
theorem inlX7 : ∀ w ∈ wsX70, w ∈ wsL_law := fun _ h => List.mem_append_left _ (List.mem_append_left _ (List.mem_append_left _ (List.mem_append_left _ (List.mem_append_left _ (List.mem_append_left _ (List.mem_append_left _ (List.mem_append_left _ (List.mem_append_left _ (List.mem_append_right _ h)))))))))
theorem inX7 : ∀ w ∈ wsX70, w ∈ lw_tbl := fun w h => wsL_law_in w (inlX7 w h)
theorem inlX8 : ∀ w ∈ wsX80, w ∈ wsL_law := fun _ h => List.mem_append_left _ (List.mem_append_left _ (List.mem_append_left _ (List.mem_append_left _ (List.mem_append_right _ h))))
theorem inX8 : ∀ w ∈ wsX80, w ∈ lw_tbl := fun w h => wsL_law_in w (inlX8 w h)
theorem inX9 : ∀ w ∈ wsX90, w ∈ lw_tbl := by decide +kernel
theorem inlX10 : ∀ w ∈ wsX100, w ∈ wsL_law := fun _ h => List.mem_append_left _ (List.mem_append_left _ (List.mem_append_left _ (List.mem_append_left _ (List.mem_append_left _ (List.mem_append_left _ (List.mem_append_right _ h))))))
theorem inX10 : ∀ w ∈ wsX100, w ∈ lw_tbl := fun w h => wsL_law_in w (inlX10 w h)
theorem inlX11 : ∀ w ∈ wsX110, w ∈ wsL_law := fun _ h => List.mem_append_left _ (List.mem_append_left _ (List.mem_append_left _ (List.mem_append_left _ (List.mem_append_left _ (List.mem_append_left _ (List.mem_append_left _ (List.mem_append_left _ (List.mem_append_left _ (List.mem_append_left _ (List.mem_append_left _ (List.mem_append_right _ h)))))))))))
theorem inX11 : ∀ w ∈ wsX110, w ∈ lw_tbl := fun w h => wsL_law_in w (inlX11 w h)
theorem inlX12 : ∀ w ∈ wsX120, w ∈ wsL_law := fun _ h => List.mem_append_left _ (List.mem_append_left _ (List.mem_append_left _ (List.mem_append_left _ (List.mem_append_left _ (List.mem_append_left _ (List.mem_append_left _ (List.mem_append_left _ (List.mem_append_left _ (List.mem_append_left _ (List.mem_append_left _ (List.mem_append_left _ (List.mem_append_left _ (List.mem_append_right _ h)))))))))))))
theorem inX12 : ∀ w ∈ wsX120, w ∈ lw_tbl := fun w h => wsL_law_in w (inlX12 w h)
theorem inlX13 : ∀ w ∈ wsX130, w ∈ wsL_law := fun _ h => List.mem_append_left _ (List.mem_append_left _ (List.mem_append_left _ (List.mem_append_left _ (List.mem_append_left _ (List.mem_append_left _ (List.mem_append_left _ (List.mem_append_left _ (List.mem_append_left _ (List.mem_append_left _ (List.mem_append_left _ (List.mem_append_left _ (List.mem_append_right _ h))))))))))))
theorem inX13 : ∀ w ∈ wsX130, w ∈ lw_tbl := fun w h => wsL_law_in w (inlX13 w h)
end
