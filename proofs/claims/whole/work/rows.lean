section
-- ===== PART A: goes FIRST, ahead of the names: the tables' words, and 'selects' of the private methods out of them =====
/-- a private method of a class that the tables say can be made, by its rows of tables_1 -/
def lw_okq (q : MethodName × Nat) : Prop := (q.1.cls ≠ "java/lang/invoke/MethodHandle" ∧ q.1.cls ≠ "java/lang/invoke/VarHandle") ∧ Cond.instantiable q.1.cls q.2 ∈ tables_1 ∧ Cond.privateMethod q.1 ∈ tables_1 ∧ Cond.instanceMethod q.1 ∈ tables_1
theorem lw_p0 : lw_okq (⟨"FoldedRealm$Tokens", "isLetter", "(I)Z"⟩, 8) := ⟨⟨by decide +kernel, by decide +kernel⟩, List.mem_of_getElem? (i := 36) (by decide +kernel), List.mem_of_getElem? (i := 424) (by decide +kernel), List.mem_of_getElem? (i := 425) (by decide +kernel)⟩
theorem lw_p1 : lw_okq (⟨"FoldedRealm$Tokens", "takeLetters", "()V"⟩, 8) := ⟨⟨by decide +kernel, by decide +kernel⟩, List.mem_of_getElem? (i := 36) (by decide +kernel), List.mem_of_getElem? (i := 428) (by decide +kernel), List.mem_of_getElem? (i := 429) (by decide +kernel)⟩
theorem lw_p2 : lw_okq (⟨"FoldedRealm$Tokens", "isDigit", "(I)Z"⟩, 8) := ⟨⟨by decide +kernel, by decide +kernel⟩, List.mem_of_getElem? (i := 36) (by decide +kernel), List.mem_of_getElem? (i := 433) (by decide +kernel), List.mem_of_getElem? (i := 434) (by decide +kernel)⟩
theorem lw_p3 : lw_okq (⟨"FoldedRealm$Tokens", "takeDigits", "()V"⟩, 8) := ⟨⟨by decide +kernel, by decide +kernel⟩, List.mem_of_getElem? (i := 36) (by decide +kernel), List.mem_of_getElem? (i := 437) (by decide +kernel), List.mem_of_getElem? (i := 438) (by decide +kernel)⟩
theorem lw_p4 : lw_okq (⟨"FoldedRealm$Tokens", "sortTaken", "()LFoldedRealm$Sort;"⟩, 8) := ⟨⟨by decide +kernel, by decide +kernel⟩, List.mem_of_getElem? (i := 36) (by decide +kernel), List.mem_of_getElem? (i := 441) (by decide +kernel), List.mem_of_getElem? (i := 442) (by decide +kernel)⟩
theorem lw_p5 : lw_okq (⟨"FoldedRealm$Reader", "readWriter", "(LFoldedRealm$Realm;)Z"⟩, 4) := ⟨⟨by decide +kernel, by decide +kernel⟩, List.mem_of_getElem? (i := 77) (by decide +kernel), List.mem_of_getElem? (i := 518) (by decide +kernel), List.mem_of_getElem? (i := 519) (by decide +kernel)⟩
theorem lw_p6 : lw_okq (⟨"FoldedRealm$Reader", "isNewName", "(LFoldedRealm$Realm;)Z"⟩, 4) := ⟨⟨by decide +kernel, by decide +kernel⟩, List.mem_of_getElem? (i := 77) (by decide +kernel), List.mem_of_getElem? (i := 527) (by decide +kernel), List.mem_of_getElem? (i := 528) (by decide +kernel)⟩
theorem lw_p7 : lw_okq (⟨"FoldedRealm$Reader", "kindTold", "()I"⟩, 4) := ⟨⟨by decide +kernel, by decide +kernel⟩, List.mem_of_getElem? (i := 77) (by decide +kernel), List.mem_of_getElem? (i := 540) (by decide +kernel), List.mem_of_getElem? (i := 541) (by decide +kernel)⟩
theorem lw_p8 : lw_okq (⟨"FoldedRealm$Reader", "readWord", "(LFoldedRealm$Realm;)Z"⟩, 4) := ⟨⟨by decide +kernel, by decide +kernel⟩, List.mem_of_getElem? (i := 77) (by decide +kernel), List.mem_of_getElem? (i := 544) (by decide +kernel), List.mem_of_getElem? (i := 545) (by decide +kernel)⟩
theorem lw_p9 : lw_okq (⟨"FoldedRealm$Reader", "readEntry", "(LFoldedRealm$Sort;I[II)Z"⟩, 4) := ⟨⟨by decide +kernel, by decide +kernel⟩, List.mem_of_getElem? (i := 77) (by decide +kernel), List.mem_of_getElem? (i := 550) (by decide +kernel), List.mem_of_getElem? (i := 551) (by decide +kernel)⟩
theorem lw_p10 : lw_okq (⟨"FoldedRealm$Reader", "isNumber", "(II)Z"⟩, 4) := ⟨⟨by decide +kernel, by decide +kernel⟩, List.mem_of_getElem? (i := 77) (by decide +kernel), List.mem_of_getElem? (i := 554) (by decide +kernel), List.mem_of_getElem? (i := 555) (by decide +kernel)⟩
theorem lw_p11 : lw_okq (⟨"FoldedRealm$Reader", "readLikes", "(LFoldedRealm$Realm;)Z"⟩, 4) := ⟨⟨by decide +kernel, by decide +kernel⟩, List.mem_of_getElem? (i := 77) (by decide +kernel), List.mem_of_getElem? (i := 565) (by decide +kernel), List.mem_of_getElem? (i := 566) (by decide +kernel)⟩
theorem lw_p12 : lw_okq (⟨"FoldedRealm$Reader", "failAtName", "()Z"⟩, 4) := ⟨⟨by decide +kernel, by decide +kernel⟩, List.mem_of_getElem? (i := 77) (by decide +kernel), List.mem_of_getElem? (i := 569) (by decide +kernel), List.mem_of_getElem? (i := 570) (by decide +kernel)⟩
theorem lw_p13 : lw_okq (⟨"FoldedRealm$Reader", "readClash", "(LFoldedRealm$Realm;)Z"⟩, 4) := ⟨⟨by decide +kernel, by decide +kernel⟩, List.mem_of_getElem? (i := 77) (by decide +kernel), List.mem_of_getElem? (i := 589) (by decide +kernel), List.mem_of_getElem? (i := 590) (by decide +kernel)⟩
theorem lw_p14 : lw_okq (⟨"FoldedRealm$Reader", "readFolds", "(LFoldedRealm$Realm;)Z"⟩, 4) := ⟨⟨by decide +kernel, by decide +kernel⟩, List.mem_of_getElem? (i := 77) (by decide +kernel), List.mem_of_getElem? (i := 601) (by decide +kernel), List.mem_of_getElem? (i := 602) (by decide +kernel)⟩
theorem lw_p15 : lw_okq (⟨"FoldedRealm$Reader", "readFormula", "(LFoldedRealm$Realm;LFoldedRealm$Formula;)Z"⟩, 4) := ⟨⟨by decide +kernel, by decide +kernel⟩, List.mem_of_getElem? (i := 77) (by decide +kernel), List.mem_of_getElem? (i := 605) (by decide +kernel), List.mem_of_getElem? (i := 606) (by decide +kernel)⟩
def lw_privs_1 : List (MethodName × Nat) := [(⟨"FoldedRealm$Tokens", "isLetter", "(I)Z"⟩, 8), (⟨"FoldedRealm$Tokens", "takeLetters", "()V"⟩, 8), (⟨"FoldedRealm$Tokens", "isDigit", "(I)Z"⟩, 8), (⟨"FoldedRealm$Tokens", "takeDigits", "()V"⟩, 8), (⟨"FoldedRealm$Tokens", "sortTaken", "()LFoldedRealm$Sort;"⟩, 8), (⟨"FoldedRealm$Reader", "readWriter", "(LFoldedRealm$Realm;)Z"⟩, 4), (⟨"FoldedRealm$Reader", "isNewName", "(LFoldedRealm$Realm;)Z"⟩, 4), (⟨"FoldedRealm$Reader", "kindTold", "()I"⟩, 4), (⟨"FoldedRealm$Reader", "readWord", "(LFoldedRealm$Realm;)Z"⟩, 4), (⟨"FoldedRealm$Reader", "readEntry", "(LFoldedRealm$Sort;I[II)Z"⟩, 4), (⟨"FoldedRealm$Reader", "isNumber", "(II)Z"⟩, 4), (⟨"FoldedRealm$Reader", "readLikes", "(LFoldedRealm$Realm;)Z"⟩, 4), (⟨"FoldedRealm$Reader", "failAtName", "()Z"⟩, 4), (⟨"FoldedRealm$Reader", "readClash", "(LFoldedRealm$Realm;)Z"⟩, 4), (⟨"FoldedRealm$Reader", "readFolds", "(LFoldedRealm$Realm;)Z"⟩, 4), (⟨"FoldedRealm$Reader", "readFormula", "(LFoldedRealm$Realm;LFoldedRealm$Formula;)Z"⟩, 4)]
theorem lw_r1 : ∀ q ∈ lw_privs_1, lw_okq q := List.forall_mem_cons.mpr ⟨lw_p0, List.forall_mem_cons.mpr ⟨lw_p1, List.forall_mem_cons.mpr ⟨lw_p2, List.forall_mem_cons.mpr ⟨lw_p3, List.forall_mem_cons.mpr ⟨lw_p4, List.forall_mem_cons.mpr ⟨lw_p5, List.forall_mem_cons.mpr ⟨lw_p6, List.forall_mem_cons.mpr ⟨lw_p7, List.forall_mem_cons.mpr ⟨lw_p8, List.forall_mem_cons.mpr ⟨lw_p9, List.forall_mem_cons.mpr ⟨lw_p10, List.forall_mem_cons.mpr ⟨lw_p11, List.forall_mem_cons.mpr ⟨lw_p12, List.forall_mem_cons.mpr ⟨lw_p13, List.forall_mem_cons.mpr ⟨lw_p14, List.forall_mem_cons.mpr ⟨lw_p15, fun _ h => absurd h List.not_mem_nil⟩⟩⟩⟩⟩⟩⟩⟩⟩⟩⟩⟩⟩⟩⟩⟩
theorem lw_p16 : lw_okq (⟨"FoldedRealm$FormulaReader", "readTest", "(LFoldedRealm$Formula;I)Z"⟩, 1) := ⟨⟨by decide +kernel, by decide +kernel⟩, List.mem_of_getElem? (i := 83) (by decide +kernel), List.mem_of_getElem? (i := 624) (by decide +kernel), List.mem_of_getElem? (i := 625) (by decide +kernel)⟩
theorem lw_p17 : lw_okq (⟨"FoldedRealm$FormulaReader", "readSum", "(LFoldedRealm$Formula;I)Z"⟩, 1) := ⟨⟨by decide +kernel, by decide +kernel⟩, List.mem_of_getElem? (i := 83) (by decide +kernel), List.mem_of_getElem? (i := 628) (by decide +kernel), List.mem_of_getElem? (i := 629) (by decide +kernel)⟩
theorem lw_p18 : lw_okq (⟨"FoldedRealm$FormulaReader", "readProduct", "(LFoldedRealm$Formula;I)Z"⟩, 1) := ⟨⟨by decide +kernel, by decide +kernel⟩, List.mem_of_getElem? (i := 83) (by decide +kernel), List.mem_of_getElem? (i := 632) (by decide +kernel), List.mem_of_getElem? (i := 633) (by decide +kernel)⟩
theorem lw_p19 : lw_okq (⟨"FoldedRealm$FormulaReader", "readPart", "(LFoldedRealm$Formula;I)Z"⟩, 1) := ⟨⟨by decide +kernel, by decide +kernel⟩, List.mem_of_getElem? (i := 83) (by decide +kernel), List.mem_of_getElem? (i := 636) (by decide +kernel), List.mem_of_getElem? (i := 637) (by decide +kernel)⟩
theorem lw_p20 : lw_okq (⟨"FoldedRealm$FormulaReader", "factTold", "(Z)I"⟩, 1) := ⟨⟨by decide +kernel, by decide +kernel⟩, List.mem_of_getElem? (i := 83) (by decide +kernel), List.mem_of_getElem? (i := 640) (by decide +kernel), List.mem_of_getElem? (i := 641) (by decide +kernel)⟩
theorem lw_p21 : lw_okq (⟨"FoldedRealm$FormulaReader", "factOfWrites", "()I"⟩, 1) := ⟨⟨by decide +kernel, by decide +kernel⟩, List.mem_of_getElem? (i := 83) (by decide +kernel), List.mem_of_getElem? (i := 646) (by decide +kernel), List.mem_of_getElem? (i := 647) (by decide +kernel)⟩
theorem lw_p22 : lw_okq (⟨"FoldedRealm$FormulaReader", "factOfDoes", "()I"⟩, 1) := ⟨⟨by decide +kernel, by decide +kernel⟩, List.mem_of_getElem? (i := 83) (by decide +kernel), List.mem_of_getElem? (i := 656) (by decide +kernel), List.mem_of_getElem? (i := 657) (by decide +kernel)⟩
theorem lw_p23 : lw_okq (⟨"FoldedRealm$FormulaReader", "readToClose", "(LFoldedRealm$Formula;I)Z"⟩, 1) := ⟨⟨by decide +kernel, by decide +kernel⟩, List.mem_of_getElem? (i := 83) (by decide +kernel), List.mem_of_getElem? (i := 679) (by decide +kernel), List.mem_of_getElem? (i := 680) (by decide +kernel)⟩
theorem lw_p24 : lw_okq (⟨"FoldedRealm$Reader", "readSundayLine", "(LFoldedRealm$Realm;)Z"⟩, 4) := ⟨⟨by decide +kernel, by decide +kernel⟩, List.mem_of_getElem? (i := 77) (by decide +kernel), List.mem_of_getElem? (i := 723) (by decide +kernel), List.mem_of_getElem? (i := 724) (by decide +kernel)⟩
theorem lw_p25 : lw_okq (⟨"FoldedRealm", "likelyNow", "(I)I"⟩, 12) := ⟨⟨by decide +kernel, by decide +kernel⟩, List.mem_of_getElem? (i := 28) (by decide +kernel), List.mem_of_getElem? (i := 757) (by decide +kernel), List.mem_of_getElem? (i := 758) (by decide +kernel)⟩
theorem lw_p26 : lw_okq (⟨"FoldedRealm$Formula", "factAt", "(I)I"⟩, 6) := ⟨⟨by decide +kernel, by decide +kernel⟩, List.mem_of_getElem? (i := 115) (by decide +kernel), List.mem_of_getElem? (i := 805) (by decide +kernel), List.mem_of_getElem? (i := 806) (by decide +kernel)⟩
theorem lw_p27 : lw_okq (⟨"FoldedRealm$Standing", "putOnSpike", "()V"⟩, 7) := ⟨⟨by decide +kernel, by decide +kernel⟩, List.mem_of_getElem? (i := 223) (by decide +kernel), List.mem_of_getElem? (i := 873) (by decide +kernel), List.mem_of_getElem? (i := 874) (by decide +kernel)⟩
theorem lw_p28 : lw_okq (⟨"FoldedRealm$Standing", "closeGap", "(I)V"⟩, 7) := ⟨⟨by decide +kernel, by decide +kernel⟩, List.mem_of_getElem? (i := 223) (by decide +kernel), List.mem_of_getElem? (i := 877) (by decide +kernel), List.mem_of_getElem? (i := 878) (by decide +kernel)⟩
theorem lw_p29 : lw_okq (⟨"FoldedRealm$Standing", "areClashing", "(LFoldedRealm$Realm;II)Z"⟩, 7) := ⟨⟨by decide +kernel, by decide +kernel⟩, List.mem_of_getElem? (i := 223) (by decide +kernel), List.mem_of_getElem? (i := 945) (by decide +kernel), List.mem_of_getElem? (i := 946) (by decide +kernel)⟩
theorem lw_p30 : lw_okq (⟨"FoldedRealm$Odds", "extend", "(LFoldedRealm$Realm;IIJJ)V"⟩, 7) := ⟨⟨by decide +kernel, by decide +kernel⟩, List.mem_of_getElem? (i := 304) (by decide +kernel), List.mem_of_getElem? (i := 994) (by decide +kernel), List.mem_of_getElem? (i := 995) (by decide +kernel)⟩
theorem lw_p31 : lw_okq (⟨"FoldedRealm$Odds", "keepRow", "(JJ)V"⟩, 7) := ⟨⟨by decide +kernel, by decide +kernel⟩, List.mem_of_getElem? (i := 304) (by decide +kernel), List.mem_of_getElem? (i := 998) (by decide +kernel), List.mem_of_getElem? (i := 999) (by decide +kernel)⟩
def lw_privs_2 : List (MethodName × Nat) := [(⟨"FoldedRealm$FormulaReader", "readTest", "(LFoldedRealm$Formula;I)Z"⟩, 1), (⟨"FoldedRealm$FormulaReader", "readSum", "(LFoldedRealm$Formula;I)Z"⟩, 1), (⟨"FoldedRealm$FormulaReader", "readProduct", "(LFoldedRealm$Formula;I)Z"⟩, 1), (⟨"FoldedRealm$FormulaReader", "readPart", "(LFoldedRealm$Formula;I)Z"⟩, 1), (⟨"FoldedRealm$FormulaReader", "factTold", "(Z)I"⟩, 1), (⟨"FoldedRealm$FormulaReader", "factOfWrites", "()I"⟩, 1), (⟨"FoldedRealm$FormulaReader", "factOfDoes", "()I"⟩, 1), (⟨"FoldedRealm$FormulaReader", "readToClose", "(LFoldedRealm$Formula;I)Z"⟩, 1), (⟨"FoldedRealm$Reader", "readSundayLine", "(LFoldedRealm$Realm;)Z"⟩, 4), (⟨"FoldedRealm", "likelyNow", "(I)I"⟩, 12), (⟨"FoldedRealm$Formula", "factAt", "(I)I"⟩, 6), (⟨"FoldedRealm$Standing", "putOnSpike", "()V"⟩, 7), (⟨"FoldedRealm$Standing", "closeGap", "(I)V"⟩, 7), (⟨"FoldedRealm$Standing", "areClashing", "(LFoldedRealm$Realm;II)Z"⟩, 7), (⟨"FoldedRealm$Odds", "extend", "(LFoldedRealm$Realm;IIJJ)V"⟩, 7), (⟨"FoldedRealm$Odds", "keepRow", "(JJ)V"⟩, 7)]
theorem lw_r2 : ∀ q ∈ lw_privs_2, lw_okq q := List.forall_mem_cons.mpr ⟨lw_p16, List.forall_mem_cons.mpr ⟨lw_p17, List.forall_mem_cons.mpr ⟨lw_p18, List.forall_mem_cons.mpr ⟨lw_p19, List.forall_mem_cons.mpr ⟨lw_p20, List.forall_mem_cons.mpr ⟨lw_p21, List.forall_mem_cons.mpr ⟨lw_p22, List.forall_mem_cons.mpr ⟨lw_p23, List.forall_mem_cons.mpr ⟨lw_p24, List.forall_mem_cons.mpr ⟨lw_p25, List.forall_mem_cons.mpr ⟨lw_p26, List.forall_mem_cons.mpr ⟨lw_p27, List.forall_mem_cons.mpr ⟨lw_p28, List.forall_mem_cons.mpr ⟨lw_p29, List.forall_mem_cons.mpr ⟨lw_p30, List.forall_mem_cons.mpr ⟨lw_p31, fun _ h => absurd h List.not_mem_nil⟩⟩⟩⟩⟩⟩⟩⟩⟩⟩⟩⟩⟩⟩⟩⟩
theorem lw_p32 : lw_okq (⟨"FoldedRealm$Odds", "hasRow", "(I)Z"⟩, 7) := ⟨⟨by decide +kernel, by decide +kernel⟩, List.mem_of_getElem? (i := 304) (by decide +kernel), List.mem_of_getElem? (i := 1011) (by decide +kernel), List.mem_of_getElem? (i := 1012) (by decide +kernel)⟩
theorem lw_p33 : lw_okq (⟨"FoldedRealm$Shares", "empty", "()V"⟩, 1) := ⟨⟨by decide +kernel, by decide +kernel⟩, List.mem_of_getElem? (i := 334) (by decide +kernel), List.mem_of_getElem? (i := 1037) (by decide +kernel), List.mem_of_getElem? (i := 1038) (by decide +kernel)⟩
theorem lw_p34 : lw_okq (⟨"FoldedRealm$Shares", "flow", "(LFoldedRealm$Realm;LFoldedRealm$Odds;I)V"⟩, 1) := ⟨⟨by decide +kernel, by decide +kernel⟩, List.mem_of_getElem? (i := 334) (by decide +kernel), List.mem_of_getElem? (i := 1043) (by decide +kernel), List.mem_of_getElem? (i := 1044) (by decide +kernel)⟩
theorem lw_p35 : lw_okq (⟨"FoldedRealm$Shares", "share", "(LFoldedRealm$Realm;LFoldedRealm$Odds;III)V"⟩, 1) := ⟨⟨by decide +kernel, by decide +kernel⟩, List.mem_of_getElem? (i := 334) (by decide +kernel), List.mem_of_getElem? (i := 1051) (by decide +kernel), List.mem_of_getElem? (i := 1052) (by decide +kernel)⟩
theorem lw_p36 : lw_okq (⟨"FoldedRealm", "sharedBy", "(II)I"⟩, 12) := ⟨⟨by decide +kernel, by decide +kernel⟩, List.mem_of_getElem? (i := 28) (by decide +kernel), List.mem_of_getElem? (i := 1067) (by decide +kernel), List.mem_of_getElem? (i := 1068) (by decide +kernel)⟩
theorem lw_p37 : lw_okq (⟨"FoldedRealm$Shares", "keepAlone", "(LFoldedRealm$Realm;II)V"⟩, 1) := ⟨⟨by decide +kernel, by decide +kernel⟩, List.mem_of_getElem? (i := 334) (by decide +kernel), List.mem_of_getElem? (i := 1075) (by decide +kernel), List.mem_of_getElem? (i := 1076) (by decide +kernel)⟩
theorem lw_p38 : lw_okq (⟨"FoldedRealm", "isPeaceWithout", "(I)Z"⟩, 12) := ⟨⟨by decide +kernel, by decide +kernel⟩, List.mem_of_getElem? (i := 28) (by decide +kernel), List.mem_of_getElem? (i := 1100) (by decide +kernel), List.mem_of_getElem? (i := 1101) (by decide +kernel)⟩
theorem lw_p39 : lw_okq (⟨"FoldedRealm", "likeliestBy", "(II)I"⟩, 12) := ⟨⟨by decide +kernel, by decide +kernel⟩, List.mem_of_getElem? (i := 28) (by decide +kernel), List.mem_of_getElem? (i := 1122) (by decide +kernel), List.mem_of_getElem? (i := 1123) (by decide +kernel)⟩
theorem lw_p40 : lw_okq (⟨"java/lang/Throwable", "fillInStackTrace", "(I)Ljava/lang/Throwable;"⟩, 6) := ⟨⟨by decide +kernel, by decide +kernel⟩, List.mem_of_getElem? (i := 1214) (by decide +kernel), List.mem_of_getElem? (i := 1212) (by decide +kernel), List.mem_of_getElem? (i := 1213) (by decide +kernel)⟩
theorem lw_p41 : lw_okq (⟨"FoldedRealmModel", "fresh", "()V"⟩, 63) := ⟨⟨by decide +kernel, by decide +kernel⟩, List.mem_of_getElem? (i := 1247) (by decide +kernel), List.mem_of_getElem? (i := 1253) (by decide +kernel), List.mem_of_getElem? (i := 1254) (by decide +kernel)⟩
theorem lw_p42 : lw_okq (⟨"FoldedRealmModel", "readsAll", "()Z"⟩, 63) := ⟨⟨by decide +kernel, by decide +kernel⟩, List.mem_of_getElem? (i := 1247) (by decide +kernel), List.mem_of_getElem? (i := 1461) (by decide +kernel), List.mem_of_getElem? (i := 1462) (by decide +kernel)⟩
theorem lw_p43 : lw_okq (⟨"FoldedRealmModel", "begins", "()V"⟩, 63) := ⟨⟨by decide +kernel, by decide +kernel⟩, List.mem_of_getElem? (i := 1247) (by decide +kernel), List.mem_of_getElem? (i := 1465) (by decide +kernel), List.mem_of_getElem? (i := 1466) (by decide +kernel)⟩
theorem lw_p44 : lw_okq (⟨"FoldedRealmModel", "nextToken", "()V"⟩, 63) := ⟨⟨by decide +kernel, by decide +kernel⟩, List.mem_of_getElem? (i := 1247) (by decide +kernel), List.mem_of_getElem? (i := 1469) (by decide +kernel), List.mem_of_getElem? (i := 1470) (by decide +kernel)⟩
theorem lw_p45 : lw_okq (⟨"FoldedRealmModel", "signAt", "(I)I"⟩, 63) := ⟨⟨by decide +kernel, by decide +kernel⟩, List.mem_of_getElem? (i := 1247) (by decide +kernel), List.mem_of_getElem? (i := 1473) (by decide +kernel), List.mem_of_getElem? (i := 1474) (by decide +kernel)⟩
theorem lw_p46 : lw_okq (⟨"FoldedRealmModel", "isWord", "(J)Z"⟩, 63) := ⟨⟨by decide +kernel, by decide +kernel⟩, List.mem_of_getElem? (i := 1247) (by decide +kernel), List.mem_of_getElem? (i := 1480) (by decide +kernel), List.mem_of_getElem? (i := 1481) (by decide +kernel)⟩
theorem lw_p47 : lw_okq (⟨"FoldedRealmModel", "readsWriter", "()Z"⟩, 63) := ⟨⟨by decide +kernel, by decide +kernel⟩, List.mem_of_getElem? (i := 1247) (by decide +kernel), List.mem_of_getElem? (i := 1484) (by decide +kernel), List.mem_of_getElem? (i := 1485) (by decide +kernel)⟩
def lw_privs_3 : List (MethodName × Nat) := [(⟨"FoldedRealm$Odds", "hasRow", "(I)Z"⟩, 7), (⟨"FoldedRealm$Shares", "empty", "()V"⟩, 1), (⟨"FoldedRealm$Shares", "flow", "(LFoldedRealm$Realm;LFoldedRealm$Odds;I)V"⟩, 1), (⟨"FoldedRealm$Shares", "share", "(LFoldedRealm$Realm;LFoldedRealm$Odds;III)V"⟩, 1), (⟨"FoldedRealm", "sharedBy", "(II)I"⟩, 12), (⟨"FoldedRealm$Shares", "keepAlone", "(LFoldedRealm$Realm;II)V"⟩, 1), (⟨"FoldedRealm", "isPeaceWithout", "(I)Z"⟩, 12), (⟨"FoldedRealm", "likeliestBy", "(II)I"⟩, 12), (⟨"java/lang/Throwable", "fillInStackTrace", "(I)Ljava/lang/Throwable;"⟩, 6), (⟨"FoldedRealmModel", "fresh", "()V"⟩, 63), (⟨"FoldedRealmModel", "readsAll", "()Z"⟩, 63), (⟨"FoldedRealmModel", "begins", "()V"⟩, 63), (⟨"FoldedRealmModel", "nextToken", "()V"⟩, 63), (⟨"FoldedRealmModel", "signAt", "(I)I"⟩, 63), (⟨"FoldedRealmModel", "isWord", "(J)Z"⟩, 63), (⟨"FoldedRealmModel", "readsWriter", "()Z"⟩, 63)]
theorem lw_r3 : ∀ q ∈ lw_privs_3, lw_okq q := List.forall_mem_cons.mpr ⟨lw_p32, List.forall_mem_cons.mpr ⟨lw_p33, List.forall_mem_cons.mpr ⟨lw_p34, List.forall_mem_cons.mpr ⟨lw_p35, List.forall_mem_cons.mpr ⟨lw_p36, List.forall_mem_cons.mpr ⟨lw_p37, List.forall_mem_cons.mpr ⟨lw_p38, List.forall_mem_cons.mpr ⟨lw_p39, List.forall_mem_cons.mpr ⟨lw_p40, List.forall_mem_cons.mpr ⟨lw_p41, List.forall_mem_cons.mpr ⟨lw_p42, List.forall_mem_cons.mpr ⟨lw_p43, List.forall_mem_cons.mpr ⟨lw_p44, List.forall_mem_cons.mpr ⟨lw_p45, List.forall_mem_cons.mpr ⟨lw_p46, List.forall_mem_cons.mpr ⟨lw_p47, fun _ h => absurd h List.not_mem_nil⟩⟩⟩⟩⟩⟩⟩⟩⟩⟩⟩⟩⟩⟩⟩⟩
theorem lw_p48 : lw_okq (⟨"FoldedRealmModel", "fails", "(I)Z"⟩, 63) := ⟨⟨by decide +kernel, by decide +kernel⟩, List.mem_of_getElem? (i := 1247) (by decide +kernel), List.mem_of_getElem? (i := 1488) (by decide +kernel), List.mem_of_getElem? (i := 1489) (by decide +kernel)⟩
theorem lw_p49 : lw_okq (⟨"FoldedRealmModel", "needsNew", "()Z"⟩, 63) := ⟨⟨by decide +kernel, by decide +kernel⟩, List.mem_of_getElem? (i := 1247) (by decide +kernel), List.mem_of_getElem? (i := 1492) (by decide +kernel), List.mem_of_getElem? (i := 1493) (by decide +kernel)⟩
theorem lw_p50 : lw_okq (⟨"FoldedRealmModel", "isKept", "()Z"⟩, 63) := ⟨⟨by decide +kernel, by decide +kernel⟩, List.mem_of_getElem? (i := 1247) (by decide +kernel), List.mem_of_getElem? (i := 1496) (by decide +kernel), List.mem_of_getElem? (i := 1497) (by decide +kernel)⟩
theorem lw_p51 : lw_okq (⟨"FoldedRealmModel", "writerNamed", "()I"⟩, 63) := ⟨⟨by decide +kernel, by decide +kernel⟩, List.mem_of_getElem? (i := 1247) (by decide +kernel), List.mem_of_getElem? (i := 1520) (by decide +kernel), List.mem_of_getElem? (i := 1521) (by decide +kernel)⟩
theorem lw_p52 : lw_okq (⟨"FoldedRealmModel", "wordNamed", "(I)I"⟩, 63) := ⟨⟨by decide +kernel, by decide +kernel⟩, List.mem_of_getElem? (i := 1247) (by decide +kernel), List.mem_of_getElem? (i := 1524) (by decide +kernel), List.mem_of_getElem? (i := 1525) (by decide +kernel)⟩
theorem lw_p53 : lw_okq (⟨"FoldedRealmModel", "closes", "()Z"⟩, 63) := ⟨⟨by decide +kernel, by decide +kernel⟩, List.mem_of_getElem? (i := 1247) (by decide +kernel), List.mem_of_getElem? (i := 1528) (by decide +kernel), List.mem_of_getElem? (i := 1529) (by decide +kernel)⟩
theorem lw_p54 : lw_okq (⟨"FoldedRealmModel", "isSign", "(I)Z"⟩, 63) := ⟨⟨by decide +kernel, by decide +kernel⟩, List.mem_of_getElem? (i := 1247) (by decide +kernel), List.mem_of_getElem? (i := 1532) (by decide +kernel), List.mem_of_getElem? (i := 1533) (by decide +kernel)⟩
theorem lw_p55 : lw_okq (⟨"FoldedRealmModel", "readsWord", "()Z"⟩, 63) := ⟨⟨by decide +kernel, by decide +kernel⟩, List.mem_of_getElem? (i := 1247) (by decide +kernel), List.mem_of_getElem? (i := 1536) (by decide +kernel), List.mem_of_getElem? (i := 1537) (by decide +kernel)⟩
theorem lw_p56 : lw_okq (⟨"FoldedRealmModel", "needsBoth", "(JII)Z"⟩, 63) := ⟨⟨by decide +kernel, by decide +kernel⟩, List.mem_of_getElem? (i := 1247) (by decide +kernel), List.mem_of_getElem? (i := 1540) (by decide +kernel), List.mem_of_getElem? (i := 1541) (by decide +kernel)⟩
theorem lw_p57 : lw_okq (⟨"FoldedRealmModel", "needsNumber", "(II)Z"⟩, 63) := ⟨⟨by decide +kernel, by decide +kernel⟩, List.mem_of_getElem? (i := 1247) (by decide +kernel), List.mem_of_getElem? (i := 1544) (by decide +kernel), List.mem_of_getElem? (i := 1545) (by decide +kernel)⟩
theorem lw_p58 : lw_okq (⟨"FoldedRealmModel", "readsLikes", "()Z"⟩, 63) := ⟨⟨by decide +kernel, by decide +kernel⟩, List.mem_of_getElem? (i := 1247) (by decide +kernel), List.mem_of_getElem? (i := 1551) (by decide +kernel), List.mem_of_getElem? (i := 1552) (by decide +kernel)⟩
theorem lw_p59 : lw_okq (⟨"FoldedRealmModel", "needsToldWord", "(I)Z"⟩, 63) := ⟨⟨by decide +kernel, by decide +kernel⟩, List.mem_of_getElem? (i := 1247) (by decide +kernel), List.mem_of_getElem? (i := 1555) (by decide +kernel), List.mem_of_getElem? (i := 1556) (by decide +kernel)⟩
theorem lw_p60 : lw_okq (⟨"FoldedRealmModel", "readsClash", "()Z"⟩, 63) := ⟨⟨by decide +kernel, by decide +kernel⟩, List.mem_of_getElem? (i := 1247) (by decide +kernel), List.mem_of_getElem? (i := 1559) (by decide +kernel), List.mem_of_getElem? (i := 1560) (by decide +kernel)⟩
theorem lw_p61 : lw_okq (⟨"FoldedRealmModel", "readsFolds", "()Z"⟩, 63) := ⟨⟨by decide +kernel, by decide +kernel⟩, List.mem_of_getElem? (i := 1247) (by decide +kernel), List.mem_of_getElem? (i := 1563) (by decide +kernel), List.mem_of_getElem? (i := 1564) (by decide +kernel)⟩
theorem lw_p62 : lw_okq (⟨"FoldedRealmModel", "readsLaw", "(I)Z"⟩, 63) := ⟨⟨by decide +kernel, by decide +kernel⟩, List.mem_of_getElem? (i := 1247) (by decide +kernel), List.mem_of_getElem? (i := 1567) (by decide +kernel), List.mem_of_getElem? (i := 1568) (by decide +kernel)⟩
theorem lw_p63 : lw_okq (⟨"FoldedRealmModel", "reads", "()Z"⟩, 63) := ⟨⟨by decide +kernel, by decide +kernel⟩, List.mem_of_getElem? (i := 1247) (by decide +kernel), List.mem_of_getElem? (i := 1571) (by decide +kernel), List.mem_of_getElem? (i := 1572) (by decide +kernel)⟩
def lw_privs_4 : List (MethodName × Nat) := [(⟨"FoldedRealmModel", "fails", "(I)Z"⟩, 63), (⟨"FoldedRealmModel", "needsNew", "()Z"⟩, 63), (⟨"FoldedRealmModel", "isKept", "()Z"⟩, 63), (⟨"FoldedRealmModel", "writerNamed", "()I"⟩, 63), (⟨"FoldedRealmModel", "wordNamed", "(I)I"⟩, 63), (⟨"FoldedRealmModel", "closes", "()Z"⟩, 63), (⟨"FoldedRealmModel", "isSign", "(I)Z"⟩, 63), (⟨"FoldedRealmModel", "readsWord", "()Z"⟩, 63), (⟨"FoldedRealmModel", "needsBoth", "(JII)Z"⟩, 63), (⟨"FoldedRealmModel", "needsNumber", "(II)Z"⟩, 63), (⟨"FoldedRealmModel", "readsLikes", "()Z"⟩, 63), (⟨"FoldedRealmModel", "needsToldWord", "(I)Z"⟩, 63), (⟨"FoldedRealmModel", "readsClash", "()Z"⟩, 63), (⟨"FoldedRealmModel", "readsFolds", "()Z"⟩, 63), (⟨"FoldedRealmModel", "readsLaw", "(I)Z"⟩, 63), (⟨"FoldedRealmModel", "reads", "()Z"⟩, 63)]
theorem lw_r4 : ∀ q ∈ lw_privs_4, lw_okq q := List.forall_mem_cons.mpr ⟨lw_p48, List.forall_mem_cons.mpr ⟨lw_p49, List.forall_mem_cons.mpr ⟨lw_p50, List.forall_mem_cons.mpr ⟨lw_p51, List.forall_mem_cons.mpr ⟨lw_p52, List.forall_mem_cons.mpr ⟨lw_p53, List.forall_mem_cons.mpr ⟨lw_p54, List.forall_mem_cons.mpr ⟨lw_p55, List.forall_mem_cons.mpr ⟨lw_p56, List.forall_mem_cons.mpr ⟨lw_p57, List.forall_mem_cons.mpr ⟨lw_p58, List.forall_mem_cons.mpr ⟨lw_p59, List.forall_mem_cons.mpr ⟨lw_p60, List.forall_mem_cons.mpr ⟨lw_p61, List.forall_mem_cons.mpr ⟨lw_p62, List.forall_mem_cons.mpr ⟨lw_p63, fun _ h => absurd h List.not_mem_nil⟩⟩⟩⟩⟩⟩⟩⟩⟩⟩⟩⟩⟩⟩⟩⟩
theorem lw_p64 : lw_okq (⟨"FoldedRealmModel", "fact", "()I"⟩, 63) := ⟨⟨by decide +kernel, by decide +kernel⟩, List.mem_of_getElem? (i := 1247) (by decide +kernel), List.mem_of_getElem? (i := 1575) (by decide +kernel), List.mem_of_getElem? (i := 1576) (by decide +kernel)⟩
theorem lw_p65 : lw_okq (⟨"FoldedRealmModel", "puts", "(I)V"⟩, 63) := ⟨⟨by decide +kernel, by decide +kernel⟩, List.mem_of_getElem? (i := 1247) (by decide +kernel), List.mem_of_getElem? (i := 1587) (by decide +kernel), List.mem_of_getElem? (i := 1588) (by decide +kernel)⟩
theorem lw_p66 : lw_okq (⟨"FoldedRealmModel", "lays", "()V"⟩, 63) := ⟨⟨by decide +kernel, by decide +kernel⟩, List.mem_of_getElem? (i := 1247) (by decide +kernel), List.mem_of_getElem? (i := 1591) (by decide +kernel), List.mem_of_getElem? (i := 1592) (by decide +kernel)⟩
theorem lw_p67 : lw_okq (⟨"FoldedRealmModel", "readsLine", "()Z"⟩, 63) := ⟨⟨by decide +kernel, by decide +kernel⟩, List.mem_of_getElem? (i := 1247) (by decide +kernel), List.mem_of_getElem? (i := 1602) (by decide +kernel), List.mem_of_getElem? (i := 1603) (by decide +kernel)⟩
theorem lw_p68 : lw_okq (⟨"FoldedRealmModel", "laysLines", "(II)V"⟩, 63) := ⟨⟨by decide +kernel, by decide +kernel⟩, List.mem_of_getElem? (i := 1247) (by decide +kernel), List.mem_of_getElem? (i := 1606) (by decide +kernel), List.mem_of_getElem? (i := 1607) (by decide +kernel)⟩
theorem lw_p69 : lw_okq (⟨"FoldedRealmModel", "isWriter", "(I)Z"⟩, 63) := ⟨⟨by decide +kernel, by decide +kernel⟩, List.mem_of_getElem? (i := 1247) (by decide +kernel), List.mem_of_getElem? (i := 1614) (by decide +kernel), List.mem_of_getElem? (i := 1615) (by decide +kernel)⟩
theorem lw_p70 : lw_okq (⟨"FoldedRealmModel", "isTold", "(I)Z"⟩, 63) := ⟨⟨by decide +kernel, by decide +kernel⟩, List.mem_of_getElem? (i := 1247) (by decide +kernel), List.mem_of_getElem? (i := 1622) (by decide +kernel), List.mem_of_getElem? (i := 1623) (by decide +kernel)⟩
theorem lw_p71 : lw_okq (⟨"FoldedRealmModel", "likelyNow", "(I)I"⟩, 63) := ⟨⟨by decide +kernel, by decide +kernel⟩, List.mem_of_getElem? (i := 1247) (by decide +kernel), List.mem_of_getElem? (i := 1626) (by decide +kernel), List.mem_of_getElem? (i := 1627) (by decide +kernel)⟩
theorem lw_p72 : lw_okq (⟨"FoldedRealmModel", "writerOf", "(II)I"⟩, 63) := ⟨⟨by decide +kernel, by decide +kernel⟩, List.mem_of_getElem? (i := 1247) (by decide +kernel), List.mem_of_getElem? (i := 1630) (by decide +kernel), List.mem_of_getElem? (i := 1631) (by decide +kernel)⟩
theorem lw_p73 : lw_okq (⟨"FoldedRealmModel", "aheadOf", "(I)I"⟩, 63) := ⟨⟨by decide +kernel, by decide +kernel⟩, List.mem_of_getElem? (i := 1247) (by decide +kernel), List.mem_of_getElem? (i := 1634) (by decide +kernel), List.mem_of_getElem? (i := 1635) (by decide +kernel)⟩
theorem lw_p74 : lw_okq (⟨"FoldedRealmModel", "likelyBy", "(III)I"⟩, 63) := ⟨⟨by decide +kernel, by decide +kernel⟩, List.mem_of_getElem? (i := 1247) (by decide +kernel), List.mem_of_getElem? (i := 1638) (by decide +kernel), List.mem_of_getElem? (i := 1639) (by decide +kernel)⟩
theorem lw_p75 : lw_okq (⟨"FoldedRealmModel", "worked", "(I)I"⟩, 63) := ⟨⟨by decide +kernel, by decide +kernel⟩, List.mem_of_getElem? (i := 1247) (by decide +kernel), List.mem_of_getElem? (i := 1642) (by decide +kernel), List.mem_of_getElem? (i := 1643) (by decide +kernel)⟩
theorem lw_p76 : lw_okq (⟨"FoldedRealmModel", "opens", "(I)V"⟩, 63) := ⟨⟨by decide +kernel, by decide +kernel⟩, List.mem_of_getElem? (i := 1247) (by decide +kernel), List.mem_of_getElem? (i := 1646) (by decide +kernel), List.mem_of_getElem? (i := 1647) (by decide +kernel)⟩
theorem lw_p77 : lw_okq (⟨"FoldedRealmModel", "sums", "(I)V"⟩, 63) := ⟨⟨by decide +kernel, by decide +kernel⟩, List.mem_of_getElem? (i := 1247) (by decide +kernel), List.mem_of_getElem? (i := 1650) (by decide +kernel), List.mem_of_getElem? (i := 1651) (by decide +kernel)⟩
theorem lw_p78 : lw_okq (⟨"FoldedRealmModel", "tests", "(I)V"⟩, 63) := ⟨⟨by decide +kernel, by decide +kernel⟩, List.mem_of_getElem? (i := 1247) (by decide +kernel), List.mem_of_getElem? (i := 1654) (by decide +kernel), List.mem_of_getElem? (i := 1655) (by decide +kernel)⟩
theorem lw_p79 : lw_okq (⟨"FoldedRealmModel", "canWrite", "(I)Z"⟩, 63) := ⟨⟨by decide +kernel, by decide +kernel⟩, List.mem_of_getElem? (i := 1247) (by decide +kernel), List.mem_of_getElem? (i := 1674) (by decide +kernel), List.mem_of_getElem? (i := 1675) (by decide +kernel)⟩
def lw_privs_5 : List (MethodName × Nat) := [(⟨"FoldedRealmModel", "fact", "()I"⟩, 63), (⟨"FoldedRealmModel", "puts", "(I)V"⟩, 63), (⟨"FoldedRealmModel", "lays", "()V"⟩, 63), (⟨"FoldedRealmModel", "readsLine", "()Z"⟩, 63), (⟨"FoldedRealmModel", "laysLines", "(II)V"⟩, 63), (⟨"FoldedRealmModel", "isWriter", "(I)Z"⟩, 63), (⟨"FoldedRealmModel", "isTold", "(I)Z"⟩, 63), (⟨"FoldedRealmModel", "likelyNow", "(I)I"⟩, 63), (⟨"FoldedRealmModel", "writerOf", "(II)I"⟩, 63), (⟨"FoldedRealmModel", "aheadOf", "(I)I"⟩, 63), (⟨"FoldedRealmModel", "likelyBy", "(III)I"⟩, 63), (⟨"FoldedRealmModel", "worked", "(I)I"⟩, 63), (⟨"FoldedRealmModel", "opens", "(I)V"⟩, 63), (⟨"FoldedRealmModel", "sums", "(I)V"⟩, 63), (⟨"FoldedRealmModel", "tests", "(I)V"⟩, 63), (⟨"FoldedRealmModel", "canWrite", "(I)Z"⟩, 63)]
theorem lw_r5 : ∀ q ∈ lw_privs_5, lw_okq q := List.forall_mem_cons.mpr ⟨lw_p64, List.forall_mem_cons.mpr ⟨lw_p65, List.forall_mem_cons.mpr ⟨lw_p66, List.forall_mem_cons.mpr ⟨lw_p67, List.forall_mem_cons.mpr ⟨lw_p68, List.forall_mem_cons.mpr ⟨lw_p69, List.forall_mem_cons.mpr ⟨lw_p70, List.forall_mem_cons.mpr ⟨lw_p71, List.forall_mem_cons.mpr ⟨lw_p72, List.forall_mem_cons.mpr ⟨lw_p73, List.forall_mem_cons.mpr ⟨lw_p74, List.forall_mem_cons.mpr ⟨lw_p75, List.forall_mem_cons.mpr ⟨lw_p76, List.forall_mem_cons.mpr ⟨lw_p77, List.forall_mem_cons.mpr ⟨lw_p78, List.forall_mem_cons.mpr ⟨lw_p79, fun _ h => absurd h List.not_mem_nil⟩⟩⟩⟩⟩⟩⟩⟩⟩⟩⟩⟩⟩⟩⟩⟩
theorem lw_p80 : lw_okq (⟨"FoldedRealmModel", "keeps", "()V"⟩, 63) := ⟨⟨by decide +kernel, by decide +kernel⟩, List.mem_of_getElem? (i := 1247) (by decide +kernel), List.mem_of_getElem? (i := 1678) (by decide +kernel), List.mem_of_getElem? (i := 1679) (by decide +kernel)⟩
theorem lw_p81 : lw_okq (⟨"FoldedRealmModel", "laysWord", "(I)V"⟩, 63) := ⟨⟨by decide +kernel, by decide +kernel⟩, List.mem_of_getElem? (i := 1247) (by decide +kernel), List.mem_of_getElem? (i := 1685) (by decide +kernel), List.mem_of_getElem? (i := 1686) (by decide +kernel)⟩
theorem lw_p82 : lw_okq (⟨"FoldedRealmModel", "ends", "()V"⟩, 63) := ⟨⟨by decide +kernel, by decide +kernel⟩, List.mem_of_getElem? (i := 1247) (by decide +kernel), List.mem_of_getElem? (i := 1689) (by decide +kernel), List.mem_of_getElem? (i := 1690) (by decide +kernel)⟩
theorem lw_p83 : lw_okq (⟨"FoldedRealmModel", "doesBy", "(II)I"⟩, 63) := ⟨⟨by decide +kernel, by decide +kernel⟩, List.mem_of_getElem? (i := 1247) (by decide +kernel), List.mem_of_getElem? (i := 1693) (by decide +kernel), List.mem_of_getElem? (i := 1694) (by decide +kernel)⟩
theorem lw_p84 : lw_okq (⟨"FoldedRealmModel", "fallsOff", "(I)V"⟩, 63) := ⟨⟨by decide +kernel, by decide +kernel⟩, List.mem_of_getElem? (i := 1247) (by decide +kernel), List.mem_of_getElem? (i := 1697) (by decide +kernel), List.mem_of_getElem? (i := 1698) (by decide +kernel)⟩
theorem lw_p85 : lw_okq (⟨"FoldedRealmModel", "canPass", "()Z"⟩, 63) := ⟨⟨by decide +kernel, by decide +kernel⟩, List.mem_of_getElem? (i := 1247) (by decide +kernel), List.mem_of_getElem? (i := 1705) (by decide +kernel), List.mem_of_getElem? (i := 1706) (by decide +kernel)⟩
theorem lw_p86 : lw_okq (⟨"FoldedRealmModel", "burns", "(I)V"⟩, 63) := ⟨⟨by decide +kernel, by decide +kernel⟩, List.mem_of_getElem? (i := 1247) (by decide +kernel), List.mem_of_getElem? (i := 1713) (by decide +kernel), List.mem_of_getElem? (i := 1714) (by decide +kernel)⟩
theorem lw_p87 : lw_okq (⟨"FoldedRealmModel", "goes", "(I)Z"⟩, 63) := ⟨⟨by decide +kernel, by decide +kernel⟩, List.mem_of_getElem? (i := 1247) (by decide +kernel), List.mem_of_getElem? (i := 1726) (by decide +kernel), List.mem_of_getElem? (i := 1727) (by decide +kernel)⟩
theorem lw_p88 : lw_okq (⟨"FoldedRealmModel", "doesLastClash", "()Z"⟩, 63) := ⟨⟨by decide +kernel, by decide +kernel⟩, List.mem_of_getElem? (i := 1247) (by decide +kernel), List.mem_of_getElem? (i := 1730) (by decide +kernel), List.mem_of_getElem? (i := 1731) (by decide +kernel)⟩
theorem lw_p89 : lw_okq (⟨"FoldedRealmModel", "doClash", "(II)Z"⟩, 63) := ⟨⟨by decide +kernel, by decide +kernel⟩, List.mem_of_getElem? (i := 1247) (by decide +kernel), List.mem_of_getElem? (i := 1734) (by decide +kernel), List.mem_of_getElem? (i := 1735) (by decide +kernel)⟩
theorem lw_p90 : lw_okq (⟨"FoldedRealmModel", "wordsOf", "(I)I"⟩, 63) := ⟨⟨by decide +kernel, by decide +kernel⟩, List.mem_of_getElem? (i := 1247) (by decide +kernel), List.mem_of_getElem? (i := 1738) (by decide +kernel), List.mem_of_getElem? (i := 1739) (by decide +kernel)⟩
theorem lw_p91 : lw_okq (⟨"FoldedRealmModel", "wordIn", "(II)I"⟩, 63) := ⟨⟨by decide +kernel, by decide +kernel⟩, List.mem_of_getElem? (i := 1247) (by decide +kernel), List.mem_of_getElem? (i := 1749) (by decide +kernel), List.mem_of_getElem? (i := 1750) (by decide +kernel)⟩
theorem lw_p92 : lw_okq (⟨"FoldedRealmModel", "goesOn", "(III)Z"⟩, 63) := ⟨⟨by decide +kernel, by decide +kernel⟩, List.mem_of_getElem? (i := 1247) (by decide +kernel), List.mem_of_getElem? (i := 1753) (by decide +kernel), List.mem_of_getElem? (i := 1754) (by decide +kernel)⟩
theorem lw_p93 : lw_okq (⟨"FoldedRealmModel", "allLikely", "(III)I"⟩, 63) := ⟨⟨by decide +kernel, by decide +kernel⟩, List.mem_of_getElem? (i := 1247) (by decide +kernel), List.mem_of_getElem? (i := 1757) (by decide +kernel), List.mem_of_getElem? (i := 1758) (by decide +kernel)⟩
theorem lw_p94 : lw_okq (⟨"FoldedRealmModel", "laysRows", "()V"⟩, 63) := ⟨⟨by decide +kernel, by decide +kernel⟩, List.mem_of_getElem? (i := 1247) (by decide +kernel), List.mem_of_getElem? (i := 1766) (by decide +kernel), List.mem_of_getElem? (i := 1767) (by decide +kernel)⟩
theorem lw_p95 : lw_okq (⟨"FoldedRealmModel", "rows", "(IIII)V"⟩, 63) := ⟨⟨by decide +kernel, by decide +kernel⟩, List.mem_of_getElem? (i := 1247) (by decide +kernel), List.mem_of_getElem? (i := 1770) (by decide +kernel), List.mem_of_getElem? (i := 1771) (by decide +kernel)⟩
def lw_privs_6 : List (MethodName × Nat) := [(⟨"FoldedRealmModel", "keeps", "()V"⟩, 63), (⟨"FoldedRealmModel", "laysWord", "(I)V"⟩, 63), (⟨"FoldedRealmModel", "ends", "()V"⟩, 63), (⟨"FoldedRealmModel", "doesBy", "(II)I"⟩, 63), (⟨"FoldedRealmModel", "fallsOff", "(I)V"⟩, 63), (⟨"FoldedRealmModel", "canPass", "()Z"⟩, 63), (⟨"FoldedRealmModel", "burns", "(I)V"⟩, 63), (⟨"FoldedRealmModel", "goes", "(I)Z"⟩, 63), (⟨"FoldedRealmModel", "doesLastClash", "()Z"⟩, 63), (⟨"FoldedRealmModel", "doClash", "(II)Z"⟩, 63), (⟨"FoldedRealmModel", "wordsOf", "(I)I"⟩, 63), (⟨"FoldedRealmModel", "wordIn", "(II)I"⟩, 63), (⟨"FoldedRealmModel", "goesOn", "(III)Z"⟩, 63), (⟨"FoldedRealmModel", "allLikely", "(III)I"⟩, 63), (⟨"FoldedRealmModel", "laysRows", "()V"⟩, 63), (⟨"FoldedRealmModel", "rows", "(IIII)V"⟩, 63)]
theorem lw_r6 : ∀ q ∈ lw_privs_6, lw_okq q := List.forall_mem_cons.mpr ⟨lw_p80, List.forall_mem_cons.mpr ⟨lw_p81, List.forall_mem_cons.mpr ⟨lw_p82, List.forall_mem_cons.mpr ⟨lw_p83, List.forall_mem_cons.mpr ⟨lw_p84, List.forall_mem_cons.mpr ⟨lw_p85, List.forall_mem_cons.mpr ⟨lw_p86, List.forall_mem_cons.mpr ⟨lw_p87, List.forall_mem_cons.mpr ⟨lw_p88, List.forall_mem_cons.mpr ⟨lw_p89, List.forall_mem_cons.mpr ⟨lw_p90, List.forall_mem_cons.mpr ⟨lw_p91, List.forall_mem_cons.mpr ⟨lw_p92, List.forall_mem_cons.mpr ⟨lw_p93, List.forall_mem_cons.mpr ⟨lw_p94, List.forall_mem_cons.mpr ⟨lw_p95, fun _ h => absurd h List.not_mem_nil⟩⟩⟩⟩⟩⟩⟩⟩⟩⟩⟩⟩⟩⟩⟩⟩
theorem lw_p96 : lw_okq (⟨"FoldedRealmModel", "endsRow", "(II)V"⟩, 63) := ⟨⟨by decide +kernel, by decide +kernel⟩, List.mem_of_getElem? (i := 1247) (by decide +kernel), List.mem_of_getElem? (i := 1774) (by decide +kernel), List.mem_of_getElem? (i := 1775) (by decide +kernel)⟩
theorem lw_p97 : lw_okq (⟨"FoldedRealmModel", "noneOnly", "()V"⟩, 63) := ⟨⟨by decide +kernel, by decide +kernel⟩, List.mem_of_getElem? (i := 1247) (by decide +kernel), List.mem_of_getElem? (i := 1791) (by decide +kernel), List.mem_of_getElem? (i := 1792) (by decide +kernel)⟩
theorem lw_p98 : lw_okq (⟨"FoldedRealmModel", "sharesOut", "(III)I"⟩, 63) := ⟨⟨by decide +kernel, by decide +kernel⟩, List.mem_of_getElem? (i := 1247) (by decide +kernel), List.mem_of_getElem? (i := 1796) (by decide +kernel), List.mem_of_getElem? (i := 1797) (by decide +kernel)⟩
theorem lw_p99 : lw_okq (⟨"FoldedRealmModel", "sharesFrom", "(IIII)V"⟩, 63) := ⟨⟨by decide +kernel, by decide +kernel⟩, List.mem_of_getElem? (i := 1247) (by decide +kernel), List.mem_of_getElem? (i := 1800) (by decide +kernel), List.mem_of_getElem? (i := 1801) (by decide +kernel)⟩
theorem lw_p100 : lw_okq (⟨"FoldedRealmModel", "goesOnAt", "(II)Z"⟩, 63) := ⟨⟨by decide +kernel, by decide +kernel⟩, List.mem_of_getElem? (i := 1247) (by decide +kernel), List.mem_of_getElem? (i := 1804) (by decide +kernel), List.mem_of_getElem? (i := 1805) (by decide +kernel)⟩
theorem lw_p101 : lw_okq (⟨"FoldedRealmModel", "allWholes", "()I"⟩, 63) := ⟨⟨by decide +kernel, by decide +kernel⟩, List.mem_of_getElem? (i := 1247) (by decide +kernel), List.mem_of_getElem? (i := 1816) (by decide +kernel), List.mem_of_getElem? (i := 1817) (by decide +kernel)⟩
theorem lw_p102 : lw_okq (⟨"FoldedRealmModel", "clashesOf", "(I)I"⟩, 63) := ⟨⟨by decide +kernel, by decide +kernel⟩, List.mem_of_getElem? (i := 1247) (by decide +kernel), List.mem_of_getElem? (i := 1820) (by decide +kernel), List.mem_of_getElem? (i := 1821) (by decide +kernel)⟩
theorem lw_p103 : lw_okq (⟨"FoldedRealmModel", "beganBy", "()I"⟩, 63) := ⟨⟨by decide +kernel, by decide +kernel⟩, List.mem_of_getElem? (i := 1247) (by decide +kernel), List.mem_of_getElem? (i := 1836) (by decide +kernel), List.mem_of_getElem? (i := 1837) (by decide +kernel)⟩
theorem lw_p104 : lw_okq (⟨"FoldedRealmModel", "laysOnly", "()Z"⟩, 63) := ⟨⟨by decide +kernel, by decide +kernel⟩, List.mem_of_getElem? (i := 1247) (by decide +kernel), List.mem_of_getElem? (i := 1840) (by decide +kernel), List.mem_of_getElem? (i := 1841) (by decide +kernel)⟩
theorem lw_p105 : lw_okq (⟨"FoldedRealmModel", "likeliest", "(II)I"⟩, 63) := ⟨⟨by decide +kernel, by decide +kernel⟩, List.mem_of_getElem? (i := 1247) (by decide +kernel), List.mem_of_getElem? (i := 1852) (by decide +kernel), List.mem_of_getElem? (i := 1853) (by decide +kernel)⟩
theorem lw_p106 : lw_okq (⟨"FoldedRealmModel", "livesWord", "()Z"⟩, 63) := ⟨⟨by decide +kernel, by decide +kernel⟩, List.mem_of_getElem? (i := 1247) (by decide +kernel), List.mem_of_getElem? (i := 1871) (by decide +kernel), List.mem_of_getElem? (i := 1872) (by decide +kernel)⟩
theorem lw_p107 : lw_okq (⟨"FoldedRealmModel", "draws", "(I)I"⟩, 63) := ⟨⟨by decide +kernel, by decide +kernel⟩, List.mem_of_getElem? (i := 1247) (by decide +kernel), List.mem_of_getElem? (i := 1875) (by decide +kernel), List.mem_of_getElem? (i := 1876) (by decide +kernel)⟩
theorem lw_p108 : lw_okq (⟨"FoldedRealmModel", "laysRead", "(II)V"⟩, 63) := ⟨⟨by decide +kernel, by decide +kernel⟩, List.mem_of_getElem? (i := 1247) (by decide +kernel), List.mem_of_getElem? (i := 1887) (by decide +kernel), List.mem_of_getElem? (i := 1888) (by decide +kernel)⟩
theorem lw_p109 : lw_okq (⟨"FoldedRealmModel", "allLeft", "()I"⟩, 63) := ⟨⟨by decide +kernel, by decide +kernel⟩, List.mem_of_getElem? (i := 1247) (by decide +kernel), List.mem_of_getElem? (i := 1895) (by decide +kernel), List.mem_of_getElem? (i := 1896) (by decide +kernel)⟩
def lw_privs_7 : List (MethodName × Nat) := [(⟨"FoldedRealmModel", "endsRow", "(II)V"⟩, 63), (⟨"FoldedRealmModel", "noneOnly", "()V"⟩, 63), (⟨"FoldedRealmModel", "sharesOut", "(III)I"⟩, 63), (⟨"FoldedRealmModel", "sharesFrom", "(IIII)V"⟩, 63), (⟨"FoldedRealmModel", "goesOnAt", "(II)Z"⟩, 63), (⟨"FoldedRealmModel", "allWholes", "()I"⟩, 63), (⟨"FoldedRealmModel", "clashesOf", "(I)I"⟩, 63), (⟨"FoldedRealmModel", "beganBy", "()I"⟩, 63), (⟨"FoldedRealmModel", "laysOnly", "()Z"⟩, 63), (⟨"FoldedRealmModel", "likeliest", "(II)I"⟩, 63), (⟨"FoldedRealmModel", "livesWord", "()Z"⟩, 63), (⟨"FoldedRealmModel", "draws", "(I)I"⟩, 63), (⟨"FoldedRealmModel", "laysRead", "(II)V"⟩, 63), (⟨"FoldedRealmModel", "allLeft", "()I"⟩, 63)]
theorem lw_r7 : ∀ q ∈ lw_privs_7, lw_okq q := List.forall_mem_cons.mpr ⟨lw_p96, List.forall_mem_cons.mpr ⟨lw_p97, List.forall_mem_cons.mpr ⟨lw_p98, List.forall_mem_cons.mpr ⟨lw_p99, List.forall_mem_cons.mpr ⟨lw_p100, List.forall_mem_cons.mpr ⟨lw_p101, List.forall_mem_cons.mpr ⟨lw_p102, List.forall_mem_cons.mpr ⟨lw_p103, List.forall_mem_cons.mpr ⟨lw_p104, List.forall_mem_cons.mpr ⟨lw_p105, List.forall_mem_cons.mpr ⟨lw_p106, List.forall_mem_cons.mpr ⟨lw_p107, List.forall_mem_cons.mpr ⟨lw_p108, List.forall_mem_cons.mpr ⟨lw_p109, fun _ h => absurd h List.not_mem_nil⟩⟩⟩⟩⟩⟩⟩⟩⟩⟩⟩⟩⟩⟩
def lw_privs : List (MethodName × Nat) := lw_privs_1 ++ (lw_privs_2 ++ (lw_privs_3 ++ (lw_privs_4 ++ (lw_privs_5 ++ (lw_privs_6 ++ (lw_privs_7))))))
def lw_tbl : List Cond := k2_sels lw_privs ++ tables_1
theorem lw_privs_ok : ∀ q ∈ lw_privs, lw_okq q := by
  show ∀ q ∈ lw_privs_1 ++ (lw_privs_2 ++ (lw_privs_3 ++ (lw_privs_4 ++ (lw_privs_5 ++ (lw_privs_6 ++ (lw_privs_7)))))), lw_okq q
  exact List.forall_mem_append.mpr ⟨lw_r1, List.forall_mem_append.mpr ⟨lw_r2, List.forall_mem_append.mpr ⟨lw_r3, List.forall_mem_append.mpr ⟨lw_r4, List.forall_mem_append.mpr ⟨lw_r5, List.forall_mem_append.mpr ⟨lw_r6, lw_r7⟩⟩⟩⟩⟩⟩
end
section
def RX0 : String := "FoldedRealm$1"
def TX0 : u_T := fun k => match k with
  | _ => ("", "", "", false)
def tyX0 : Nat → FieldType := fun k => match k with
  | _ => .int
abbrev wsX00 : List Cond := u_ws RX0 TX0 0
theorem nmX0 : ∀ a, a < 0 → ∀ b, b < 0 → a ≠ b → (TX0 a).2.1 ≠ (TX0 b).2.1 := by decide +kernel
theorem tyX0_ok : ∀ k, k < 0 → parseFieldDescriptor (TX0 k).2.2.1 = some (tyX0 k) := by decide +kernel
def RX1 : String := "FoldedRealm$Formula"
def TX1 : u_T := fun k => match k with
  | 0 => ("FoldedRealm$Formula", "ofWrites", "Z", true)
  | 1 => ("FoldedRealm$Formula", "facts", "[I", true)
  | 2 => ("FoldedRealm$Formula", "stack", "[I", true)
  | 3 => ("FoldedRealm$Formula", "steps", "[I", true)
  | 4 => ("FoldedRealm$Formula", "from", "I", false)
  | _ => ("FoldedRealm$Formula", "to", "I", false)
def tyX1 : Nat → FieldType := fun k => match k with
  | 0 => .boolean
  | 1 => .array .int
  | 2 => .array .int
  | 3 => .array .int
  | 4 => .int
  | _ => .int
abbrev wsX10 : List Cond := u_ws RX1 TX1 6
theorem nmX1 : ∀ a, a < 6 → ∀ b, b < 6 → a ≠ b → (TX1 a).2.1 ≠ (TX1 b).2.1 := by decide +kernel
theorem tyX1_ok : ∀ k, k < 6 → parseFieldDescriptor (TX1 k).2.2.1 = some (tyX1 k) := by decide +kernel
abbrev cX1_init : ByteArray := prog_3_method_1_code
def yX1_init : MethodName := ⟨RX1, "<init>", "(Z[I)V"⟩
abbrev cX1_clear : ByteArray := prog_3_method_2_code
def yX1_clear : MethodName := ⟨RX1, "clear", "()V"⟩
abbrev cX1_beginAt : ByteArray := prog_3_method_3_code
def yX1_beginAt : MethodName := ⟨RX1, "beginAt", "(I)V"⟩
abbrev cX1_isTold : ByteArray := prog_3_method_4_code
def yX1_isTold : MethodName := ⟨RX1, "isTold", "()Z"⟩
abbrev cX1_add : ByteArray := prog_3_method_5_code
def yX1_add : MethodName := ⟨RX1, "add", "(I)V"⟩
abbrev cX1_addFact : ByteArray := prog_3_method_6_code
def yX1_addFact : MethodName := ⟨RX1, "addFact", "(I)V"⟩
abbrev cX1_setFact : ByteArray := prog_3_method_7_code
def yX1_setFact : MethodName := ⟨RX1, "setFact", "(II)V"⟩
abbrev cX1_held : ByteArray := prog_3_method_8_code
def yX1_held : MethodName := ⟨RX1, "held", "()I"⟩
abbrev cX1_factAt : ByteArray := prog_3_method_9_code
def yX1_factAt : MethodName := ⟨RX1, "factAt", "(I)I"⟩
abbrev cX1_joined : ByteArray := prog_3_method_10_code
def yX1_joined : MethodName := ⟨RX1, "joined", "(III)I"⟩
def RX2 : String := "FoldedRealm$FormulaReader"
def TX2 : u_T := fun k => match k with
  | _ => ("FoldedRealm$FormulaReader", "tokens", "LFoldedRealm$Tokens;", true)
def tyX2 : Nat → FieldType := fun k => match k with
  | _ => .object "FoldedRealm$Tokens"
abbrev wsX20 : List Cond := u_ws RX2 TX2 1
theorem nmX2 : ∀ a, a < 1 → ∀ b, b < 1 → a ≠ b → (TX2 a).2.1 ≠ (TX2 b).2.1 := by decide +kernel
theorem tyX2_ok : ∀ k, k < 1 → parseFieldDescriptor (TX2 k).2.2.1 = some (tyX2 k) := by decide +kernel
abbrev cX2_init : ByteArray := prog_4_method_1_code
def yX2_init : MethodName := ⟨RX2, "<init>", "(LFoldedRealm$Tokens;)V"⟩
abbrev cX2_readE : ByteArray := prog_4_method_2_code
def yX2_readE : MethodName := ⟨RX2, "readE", "(LFoldedRealm$Formula;I)Z"⟩
abbrev cX2_readTest : ByteArray := prog_4_method_3_code
def yX2_readTest : MethodName := ⟨RX2, "readTest", "(LFoldedRealm$Formula;I)Z"⟩
abbrev cX2_readSum : ByteArray := prog_4_method_4_code
def yX2_readSum : MethodName := ⟨RX2, "readSum", "(LFoldedRealm$Formula;I)Z"⟩
abbrev cX2_readProduct : ByteArray := prog_4_method_5_code
def yX2_readProduct : MethodName := ⟨RX2, "readProduct", "(LFoldedRealm$Formula;I)Z"⟩
abbrev cX2_readPart : ByteArray := prog_4_method_6_code
def yX2_readPart : MethodName := ⟨RX2, "readPart", "(LFoldedRealm$Formula;I)Z"⟩
abbrev cX2_readToClose : ByteArray := prog_4_method_7_code
def yX2_readToClose : MethodName := ⟨RX2, "readToClose", "(LFoldedRealm$Formula;I)Z"⟩
abbrev cX2_factTold : ByteArray := prog_4_method_8_code
def yX2_factTold : MethodName := ⟨RX2, "factTold", "(Z)I"⟩
abbrev cX2_factOfWrites : ByteArray := prog_4_method_9_code
def yX2_factOfWrites : MethodName := ⟨RX2, "factOfWrites", "()I"⟩
abbrev cX2_factOfDoes : ByteArray := prog_4_method_10_code
def yX2_factOfDoes : MethodName := ⟨RX2, "factOfDoes", "()I"⟩
def RX3 : String := "FoldedRealm$History"
def TX3 : u_T := fun k => match k with
  | 0 => ("FoldedRealm$History", "kept", "[LFoldedRealm$Standing;", true)
  | 1 => ("FoldedRealm$History", "first", "I", false)
  | _ => ("FoldedRealm$History", "size", "I", false)
def tyX3 : Nat → FieldType := fun k => match k with
  | 0 => .array (.object "FoldedRealm$Standing")
  | 1 => .int
  | _ => .int
abbrev wsX30 : List Cond := u_ws RX3 TX3 3
theorem nmX3 : ∀ a, a < 3 → ∀ b, b < 3 → a ≠ b → (TX3 a).2.1 ≠ (TX3 b).2.1 := by decide +kernel
theorem tyX3_ok : ∀ k, k < 3 → parseFieldDescriptor (TX3 k).2.2.1 = some (tyX3 k) := by decide +kernel
abbrev cX3_init : ByteArray := prog_5_method_1_code
def yX3_init : MethodName := ⟨RX3, "<init>", "()V"⟩
abbrev cX3_forget : ByteArray := prog_5_method_2_code
def yX3_forget : MethodName := ⟨RX3, "forget", "()V"⟩
abbrev cX3_keep : ByteArray := prog_5_method_3_code
def yX3_keep : MethodName := ⟨RX3, "keep", "(LFoldedRealm$Standing;)V"⟩
abbrev cX3_giveBack : ByteArray := prog_5_method_4_code
def yX3_giveBack : MethodName := ⟨RX3, "giveBack", "(LFoldedRealm$Standing;)Z"⟩
def RX4 : String := "FoldedRealm$Odds"
def TX4 : u_T := fun k => match k with
  | 0 => ("FoldedRealm$Odds", "likely", "[I", true)
  | 1 => ("FoldedRealm$Odds", "total", "[I", true)
  | 2 => ("FoldedRealm$Odds", "path", "[I", true)
  | 3 => ("FoldedRealm$Odds", "rowWords", "[I", true)
  | 4 => ("FoldedRealm$Odds", "rowTop", "[J", true)
  | 5 => ("FoldedRealm$Odds", "rowBottom", "[J", true)
  | _ => ("FoldedRealm$Odds", "rows", "I", false)
def tyX4 : Nat → FieldType := fun k => match k with
  | 0 => .array .int
  | 1 => .array .int
  | 2 => .array .int
  | 3 => .array .int
  | 4 => .array .long
  | 5 => .array .long
  | _ => .int
abbrev wsX40 : List Cond := u_ws RX4 TX4 7
theorem nmX4 : ∀ a, a < 7 → ∀ b, b < 7 → a ≠ b → (TX4 a).2.1 ≠ (TX4 b).2.1 := by decide +kernel
theorem tyX4_ok : ∀ k, k < 7 → parseFieldDescriptor (TX4 k).2.2.1 = some (tyX4 k) := by decide +kernel
abbrev cX4_init : ByteArray := prog_6_method_1_code
def yX4_init : MethodName := ⟨RX4, "<init>", "()V"⟩
abbrev cX4_likelyBehind : ByteArray := prog_6_method_2_code
def yX4_likelyBehind : MethodName := ⟨RX4, "likelyBehind", "(II)I"⟩
abbrev cX4_totalBehind : ByteArray := prog_6_method_3_code
def yX4_totalBehind : MethodName := ⟨RX4, "totalBehind", "(I)I"⟩
abbrev cX4_weighBehind : ByteArray := prog_6_method_4_code
def yX4_weighBehind : MethodName := ⟨RX4, "weighBehind", "(LFoldedRealm$Realm;LFoldedRealm$Standing;IIII)V"⟩
abbrev cX4_weighNext : ByteArray := prog_6_method_5_code
def yX4_weighNext : MethodName := ⟨RX4, "weighNext", "(LFoldedRealm$Realm;LFoldedRealm$Standing;)I"⟩
abbrev cX4_weighAll : ByteArray := prog_6_method_6_code
def yX4_weighAll : MethodName := ⟨RX4, "weighAll", "(LFoldedRealm$Realm;LFoldedRealm$Standing;II)V"⟩
abbrev cX4_likeliestAtBeginning : ByteArray := prog_6_method_7_code
def yX4_likeliestAtBeginning : MethodName := ⟨RX4, "likeliestAtBeginning", "(LFoldedRealm$Realm;I)I"⟩
abbrev cX4_drawnAtBeginning : ByteArray := prog_6_method_8_code
def yX4_drawnAtBeginning : MethodName := ⟨RX4, "drawnAtBeginning", "(LFoldedRealm$Realm;II)I"⟩
abbrev cX4_chanceOf : ByteArray := prog_6_method_9_code
def yX4_chanceOf : MethodName := ⟨RX4, "chanceOf", "(LFoldedRealm$Realm;II)I"⟩
abbrev cX4_inMillionths : ByteArray := prog_6_method_10_code
def yX4_inMillionths : MethodName := ⟨RX4, "inMillionths", "(JJ)I"⟩
abbrev cX4_gatherRows : ByteArray := prog_6_method_11_code
def yX4_gatherRows : MethodName := ⟨RX4, "gatherRows", "(LFoldedRealm$Realm;LFoldedRealm$Standing;)V"⟩
abbrev cX4_extend : ByteArray := prog_6_method_12_code
def yX4_extend : MethodName := ⟨RX4, "extend", "(LFoldedRealm$Realm;IIJJ)V"⟩
abbrev cX4_keepRow : ByteArray := prog_6_method_13_code
def yX4_keepRow : MethodName := ⟨RX4, "keepRow", "(JJ)V"⟩
abbrev cX4_greatestRow : ByteArray := prog_6_method_14_code
def yX4_greatestRow : MethodName := ⟨RX4, "greatestRow", "()I"⟩
abbrev cX4_hasRow : ByteArray := prog_6_method_15_code
def yX4_hasRow : MethodName := ⟨RX4, "hasRow", "(I)Z"⟩
abbrev cX4_millionths : ByteArray := prog_6_method_16_code
def yX4_millionths : MethodName := ⟨RX4, "millionths", "(I)I"⟩
abbrev cX4_wordOfRow : ByteArray := prog_6_method_17_code
def yX4_wordOfRow : MethodName := ⟨RX4, "wordOfRow", "(II)I"⟩
def RX5 : String := "FoldedRealm$Page"
def TX5 : u_T := fun k => match k with
  | 0 => ("FoldedRealm$Page", "standing", "LFoldedRealm$Standing;", true)
  | 1 => ("FoldedRealm$Page", "lines", "[I", true)
  | 2 => ("FoldedRealm$Page", "lineCount", "I", false)
  | 3 => ("FoldedRealm$Page", "readBits", "I", false)
  | 4 => ("FoldedRealm$Page", "readCount", "I", false)
  | _ => ("FoldedRealm$Page", "laid", "Z", false)
def tyX5 : Nat → FieldType := fun k => match k with
  | 0 => .object "FoldedRealm$Standing"
  | 1 => .array .int
  | 2 => .int
  | 3 => .int
  | 4 => .int
  | _ => .boolean
abbrev wsX50 : List Cond := u_ws RX5 TX5 6
theorem nmX5 : ∀ a, a < 6 → ∀ b, b < 6 → a ≠ b → (TX5 a).2.1 ≠ (TX5 b).2.1 := by decide +kernel
theorem tyX5_ok : ∀ k, k < 6 → parseFieldDescriptor (TX5 k).2.2.1 = some (tyX5 k) := by decide +kernel
abbrev cX5_init : ByteArray := prog_7_method_1_code
def yX5_init : MethodName := ⟨RX5, "<init>", "()V"⟩
abbrev cX5_begin : ByteArray := prog_7_method_2_code
def yX5_begin : MethodName := ⟨RX5, "begin", "(LFoldedRealm$Realm;)V"⟩
abbrev cX5_copyFrom : ByteArray := prog_7_method_3_code
def yX5_copyFrom : MethodName := ⟨RX5, "copyFrom", "(LFoldedRealm$Page;)V"⟩
abbrev cX5_takeLines : ByteArray := prog_7_method_4_code
def yX5_takeLines : MethodName := ⟨RX5, "takeLines", "([II)V"⟩
abbrev cX5_lineAt : ByteArray := prog_7_method_5_code
def yX5_lineAt : MethodName := ⟨RX5, "lineAt", "(I)I"⟩
def RX6 : String := "FoldedRealm$Reader"
def TX6 : u_T := fun k => match k with
  | 0 => ("FoldedRealm$Reader", "tokens", "LFoldedRealm$Tokens;", true)
  | 1 => ("FoldedRealm$Reader", "formulas", "LFoldedRealm$FormulaReader;", true)
  | 2 => ("FoldedRealm$Reader", "lines", "[I", true)
  | _ => ("FoldedRealm$Reader", "lineCount", "I", false)
def tyX6 : Nat → FieldType := fun k => match k with
  | 0 => .object "FoldedRealm$Tokens"
  | 1 => .object "FoldedRealm$FormulaReader"
  | 2 => .array .int
  | _ => .int
abbrev wsX60 : List Cond := u_ws RX6 TX6 4
theorem nmX6 : ∀ a, a < 4 → ∀ b, b < 4 → a ≠ b → (TX6 a).2.1 ≠ (TX6 b).2.1 := by decide +kernel
theorem tyX6_ok : ∀ k, k < 4 → parseFieldDescriptor (TX6 k).2.2.1 = some (tyX6 k) := by decide +kernel
abbrev cX6_init : ByteArray := prog_8_method_1_code
def yX6_init : MethodName := ⟨RX6, "<init>", "(LFoldedRealm$Tokens;)V"⟩
abbrev cX6_readRealm : ByteArray := prog_8_method_2_code
def yX6_readRealm : MethodName := ⟨RX6, "readRealm", "(LFoldedRealm$Realm;)I"⟩
abbrev cX6_readWriter : ByteArray := prog_8_method_3_code
def yX6_readWriter : MethodName := ⟨RX6, "readWriter", "(LFoldedRealm$Realm;)Z"⟩
abbrev cX6_kindTold : ByteArray := prog_8_method_4_code
def yX6_kindTold : MethodName := ⟨RX6, "kindTold", "()I"⟩
abbrev cX6_readWord : ByteArray := prog_8_method_5_code
def yX6_readWord : MethodName := ⟨RX6, "readWord", "(LFoldedRealm$Realm;)Z"⟩
abbrev cX6_readEntry : ByteArray := prog_8_method_6_code
def yX6_readEntry : MethodName := ⟨RX6, "readEntry", "(LFoldedRealm$Sort;I[II)Z"⟩
abbrev cX6_readLikes : ByteArray := prog_8_method_7_code
def yX6_readLikes : MethodName := ⟨RX6, "readLikes", "(LFoldedRealm$Realm;)Z"⟩
abbrev cX6_readClash : ByteArray := prog_8_method_8_code
def yX6_readClash : MethodName := ⟨RX6, "readClash", "(LFoldedRealm$Realm;)Z"⟩
abbrev cX6_readFolds : ByteArray := prog_8_method_9_code
def yX6_readFolds : MethodName := ⟨RX6, "readFolds", "(LFoldedRealm$Realm;)Z"⟩
abbrev cX6_readFormula : ByteArray := prog_8_method_10_code
def yX6_readFormula : MethodName := ⟨RX6, "readFormula", "(LFoldedRealm$Realm;LFoldedRealm$Formula;)Z"⟩
abbrev cX6_readSundays : ByteArray := prog_8_method_11_code
def yX6_readSundays : MethodName := ⟨RX6, "readSundays", "(LFoldedRealm$Realm;)I"⟩
abbrev cX6_readSundayLine : ByteArray := prog_8_method_12_code
def yX6_readSundayLine : MethodName := ⟨RX6, "readSundayLine", "(LFoldedRealm$Realm;)Z"⟩
abbrev cX6_failAtName : ByteArray := prog_8_method_13_code
def yX6_failAtName : MethodName := ⟨RX6, "failAtName", "()Z"⟩
abbrev cX6_isNewName : ByteArray := prog_8_method_14_code
def yX6_isNewName : MethodName := ⟨RX6, "isNewName", "(LFoldedRealm$Realm;)Z"⟩
abbrev cX6_isNumber : ByteArray := prog_8_method_15_code
def yX6_isNumber : MethodName := ⟨RX6, "isNumber", "(II)Z"⟩
def RX7 : String := "FoldedRealm$Realm"
def TX7 : u_T := fun k => match k with
  | 0 => ("FoldedRealm$Realm", "writers", "I", false)
  | 1 => ("FoldedRealm$Realm", "kind", "[I", true)
  | 2 => ("FoldedRealm$Realm", "writerName", "[J", true)
  | 3 => ("FoldedRealm$Realm", "words", "I", false)
  | 4 => ("FoldedRealm$Realm", "fold", "[I", true)
  | 5 => ("FoldedRealm$Realm", "weight", "[I", true)
  | 6 => ("FoldedRealm$Realm", "good", "[I", true)
  | 7 => ("FoldedRealm$Realm", "left", "[I", true)
  | 8 => ("FoldedRealm$Realm", "wordName", "[J", true)
  | 9 => ("FoldedRealm$Realm", "fond", "[I", true)
  | 10 => ("FoldedRealm$Realm", "clashing", "[I", true)
  | 11 => ("FoldedRealm$Realm", "clashesTold", "I", false)
  | 12 => ("FoldedRealm$Realm", "folds", "I", false)
  | 13 => ("FoldedRealm$Realm", "foldsTold", "Z", false)
  | 14 => ("FoldedRealm$Realm", "writes", "LFoldedRealm$Formula;", true)
  | _ => ("FoldedRealm$Realm", "does", "LFoldedRealm$Formula;", true)
def tyX7 : Nat → FieldType := fun k => match k with
  | 0 => .int
  | 1 => .array .int
  | 2 => .array .long
  | 3 => .int
  | 4 => .array .int
  | 5 => .array .int
  | 6 => .array .int
  | 7 => .array .int
  | 8 => .array .long
  | 9 => .array .int
  | 10 => .array .int
  | 11 => .int
  | 12 => .int
  | 13 => .boolean
  | 14 => .object "FoldedRealm$Formula"
  | _ => .object "FoldedRealm$Formula"
abbrev wsX70 : List Cond := u_ws RX7 TX7 16
theorem nmX7 : ∀ a, a < 16 → ∀ b, b < 16 → a ≠ b → (TX7 a).2.1 ≠ (TX7 b).2.1 := by decide +kernel
theorem tyX7_ok : ∀ k, k < 16 → parseFieldDescriptor (TX7 k).2.2.1 = some (tyX7 k) := by decide +kernel
abbrev cX7_init : ByteArray := prog_9_method_1_code
def yX7_init : MethodName := ⟨RX7, "<init>", "()V"⟩
abbrev cX7_clear : ByteArray := prog_9_method_2_code
def yX7_clear : MethodName := ⟨RX7, "clear", "()V"⟩
abbrev cX7_hasWriter : ByteArray := prog_9_method_3_code
def yX7_hasWriter : MethodName := ⟨RX7, "hasWriter", "(I)Z"⟩
abbrev cX7_hasWord : ByteArray := prog_9_method_4_code
def yX7_hasWord : MethodName := ⟨RX7, "hasWord", "(I)Z"⟩
abbrev cX7_foldOf : ByteArray := prog_9_method_5_code
def yX7_foldOf : MethodName := ⟨RX7, "foldOf", "(I)I"⟩
abbrev cX7_isWritten : ByteArray := prog_9_method_6_code
def yX7_isWritten : MethodName := ⟨RX7, "isWritten", "(I)Z"⟩
abbrev cX7_goodOfWord : ByteArray := prog_9_method_7_code
def yX7_goodOfWord : MethodName := ⟨RX7, "goodOfWord", "(I)I"⟩
abbrev cX7_kindOf : ByteArray := prog_9_method_8_code
def yX7_kindOf : MethodName := ⟨RX7, "kindOf", "(I)I"⟩
abbrev cX7_fondness : ByteArray := prog_9_method_9_code
def yX7_fondness : MethodName := ⟨RX7, "fondness", "(II)I"⟩
abbrev cX7_setFondness : ByteArray := prog_9_method_10_code
def yX7_setFondness : MethodName := ⟨RX7, "setFondness", "(III)V"⟩
abbrev cX7_findWriter : ByteArray := prog_9_method_11_code
def yX7_findWriter : MethodName := ⟨RX7, "findWriter", "(J)I"⟩
abbrev cX7_findWord : ByteArray := prog_9_method_12_code
def yX7_findWord : MethodName := ⟨RX7, "findWord", "(J)I"⟩
abbrev cX7_doClash : ByteArray := prog_9_method_13_code
def yX7_doClash : MethodName := ⟨RX7, "doClash", "(II)Z"⟩
abbrev cX7_setClash : ByteArray := prog_9_method_14_code
def yX7_setClash : MethodName := ⟨RX7, "setClash", "(II)V"⟩
abbrev cX7_bitsOfFold : ByteArray := prog_9_method_15_code
def yX7_bitsOfFold : MethodName := ⟨RX7, "bitsOfFold", "(I)I"⟩
abbrev cX7_wordOfFold : ByteArray := prog_9_method_16_code
def yX7_wordOfFold : MethodName := ⟨RX7, "wordOfFold", "(II)I"⟩
abbrev cX7_isRow : ByteArray := prog_9_method_17_code
def yX7_isRow : MethodName := ⟨RX7, "isRow", "(II)Z"⟩
abbrev cX7_writerAt : ByteArray := prog_9_method_18_code
def yX7_writerAt : MethodName := ⟨RX7, "writerAt", "(II)I"⟩
abbrev cX7_seatBehind : ByteArray := prog_9_method_19_code
def yX7_seatBehind : MethodName := ⟨RX7, "seatBehind", "(I)I"⟩
abbrev cX7_likely : ByteArray := prog_9_method_20_code
def yX7_likely : MethodName := ⟨RX7, "likely", "(IIII)I"⟩
abbrev cX7_goodOf : ByteArray := prog_9_method_21_code
def yX7_goodOf : MethodName := ⟨RX7, "goodOf", "([III)I"⟩
def RX8 : String := "FoldedRealm$Shares"
def TX8 : u_T := fun k => match k with
  | _ => ("FoldedRealm$Shares", "has", "[I", true)
def tyX8 : Nat → FieldType := fun k => match k with
  | _ => .array .int
abbrev wsX80 : List Cond := u_ws RX8 TX8 1
theorem nmX8 : ∀ a, a < 1 → ∀ b, b < 1 → a ≠ b → (TX8 a).2.1 ≠ (TX8 b).2.1 := by decide +kernel
theorem tyX8_ok : ∀ k, k < 1 → parseFieldDescriptor (TX8 k).2.2.1 = some (tyX8 k) := by decide +kernel
abbrev cX8_init : ByteArray := prog_10_method_1_code
def yX8_init : MethodName := ⟨RX8, "<init>", "()V"⟩
abbrev cX8_of : ByteArray := prog_10_method_2_code
def yX8_of : MethodName := ⟨RX8, "of", "(I)I"⟩
abbrev cX8_atLast : ByteArray := prog_10_method_3_code
def yX8_atLast : MethodName := ⟨RX8, "atLast", "(LFoldedRealm$Realm;)I"⟩
abbrev cX8_pour : ByteArray := prog_10_method_4_code
def yX8_pour : MethodName := ⟨RX8, "pour", "(LFoldedRealm$Realm;LFoldedRealm$Odds;I)V"⟩
abbrev cX8_pourBehind : ByteArray := prog_10_method_5_code
def yX8_pourBehind : MethodName := ⟨RX8, "pourBehind", "(LFoldedRealm$Realm;LFoldedRealm$Odds;I)V"⟩
abbrev cX8_empty : ByteArray := prog_10_method_6_code
def yX8_empty : MethodName := ⟨RX8, "empty", "()V"⟩
abbrev cX8_flow : ByteArray := prog_10_method_7_code
def yX8_flow : MethodName := ⟨RX8, "flow", "(LFoldedRealm$Realm;LFoldedRealm$Odds;I)V"⟩
abbrev cX8_share : ByteArray := prog_10_method_8_code
def yX8_share : MethodName := ⟨RX8, "share", "(LFoldedRealm$Realm;LFoldedRealm$Odds;III)V"⟩
abbrev cX8_keepAlone : ByteArray := prog_10_method_9_code
def yX8_keepAlone : MethodName := ⟨RX8, "keepAlone", "(LFoldedRealm$Realm;II)V"⟩
def RX9 : String := "FoldedRealm$Sort"
def TX9 : u_T := fun k => match k with
  | _ => ("", "", "", false)
def tyX9 : Nat → FieldType := fun k => match k with
  | _ => .int
abbrev wsX90 : List Cond := u_ws RX9 TX9 0
theorem nmX9 : ∀ a, a < 0 → ∀ b, b < 0 → a ≠ b → (TX9 a).2.1 ≠ (TX9 b).2.1 := by decide +kernel
theorem tyX9_ok : ∀ k, k < 0 → parseFieldDescriptor (TX9 k).2.2.1 = some (tyX9 k) := by decide +kernel
def RX10 : String := "FoldedRealm$Standing"
def TX10 : u_T := fun k => match k with
  | 0 => ("FoldedRealm$Standing", "left", "[I", true)
  | 1 => ("FoldedRealm$Standing", "strip", "[I", true)
  | 2 => ("FoldedRealm$Standing", "spike", "[I", true)
  | 3 => ("FoldedRealm$Standing", "written", "I", false)
  | 4 => ("FoldedRealm$Standing", "seat", "I", false)
  | 5 => ("FoldedRealm$Standing", "wholes", "I", false)
  | _ => ("FoldedRealm$Standing", "good", "I", false)
def tyX10 : Nat → FieldType := fun k => match k with
  | 0 => .array .int
  | 1 => .array .int
  | 2 => .array .int
  | 3 => .int
  | 4 => .int
  | 5 => .int
  | _ => .int
abbrev wsX100 : List Cond := u_ws RX10 TX10 7
theorem nmX10 : ∀ a, a < 7 → ∀ b, b < 7 → a ≠ b → (TX10 a).2.1 ≠ (TX10 b).2.1 := by decide +kernel
theorem tyX10_ok : ∀ k, k < 7 → parseFieldDescriptor (TX10 k).2.2.1 = some (tyX10 k) := by decide +kernel
abbrev cX10_init : ByteArray := prog_12_method_1_code
def yX10_init : MethodName := ⟨RX10, "<init>", "()V"⟩
abbrev cX10_begin : ByteArray := prog_12_method_2_code
def yX10_begin : MethodName := ⟨RX10, "begin", "(LFoldedRealm$Realm;)V"⟩
abbrev cX10_copyFrom : ByteArray := prog_12_method_3_code
def yX10_copyFrom : MethodName := ⟨RX10, "copyFrom", "(LFoldedRealm$Standing;)V"⟩
abbrev cX10_stripAt : ByteArray := prog_12_method_4_code
def yX10_stripAt : MethodName := ⟨RX10, "stripAt", "(I)I"⟩
abbrev cX10_hasWhole : ByteArray := prog_12_method_5_code
def yX10_hasWhole : MethodName := ⟨RX10, "hasWhole", "(I)Z"⟩
abbrev cX10_spikeAt : ByteArray := prog_12_method_6_code
def yX10_spikeAt : MethodName := ⟨RX10, "spikeAt", "(II)I"⟩
abbrev cX10_leftOf : ByteArray := prog_12_method_7_code
def yX10_leftOf : MethodName := ⟨RX10, "leftOf", "(I)I"⟩
abbrev cX10_leftTogether : ByteArray := prog_12_method_8_code
def yX10_leftTogether : MethodName := ⟨RX10, "leftTogether", "(LFoldedRealm$Realm;)I"⟩
abbrev cX10_canPut : ByteArray := prog_12_method_9_code
def yX10_canPut : MethodName := ⟨RX10, "canPut", "(LFoldedRealm$Realm;I)Z"⟩
abbrev cX10_put : ByteArray := prog_12_method_10_code
def yX10_put : MethodName := ⟨RX10, "put", "(LFoldedRealm$Realm;I)V"⟩
abbrev cX10_putOnSpike : ByteArray := prog_12_method_11_code
def yX10_putOnSpike : MethodName := ⟨RX10, "putOnSpike", "()V"⟩
abbrev cX10_closeGap : ByteArray := prog_12_method_12_code
def yX10_closeGap : MethodName := ⟨RX10, "closeGap", "(I)V"⟩
abbrev cX10_canMoveSeat : ByteArray := prog_12_method_13_code
def yX10_canMoveSeat : MethodName := ⟨RX10, "canMoveSeat", "(LFoldedRealm$Realm;)Z"⟩
abbrev cX10_moveSeat : ByteArray := prog_12_method_14_code
def yX10_moveSeat : MethodName := ⟨RX10, "moveSeat", "(LFoldedRealm$Realm;)V"⟩
abbrev cX10_takeDown : ByteArray := prog_12_method_15_code
def yX10_takeDown : MethodName := ⟨RX10, "takeDown", "(LFoldedRealm$Realm;I)V"⟩
abbrev cX10_follow : ByteArray := prog_12_method_16_code
def yX10_follow : MethodName := ⟨RX10, "follow", "(LFoldedRealm$Realm;I)Z"⟩
abbrev cX10_cameBy : ByteArray := prog_12_method_17_code
def yX10_cameBy : MethodName := ⟨RX10, "cameBy", "(I)Z"⟩
abbrev cX10_lastClashes : ByteArray := prog_12_method_18_code
def yX10_lastClashes : MethodName := ⟨RX10, "lastClashes", "(LFoldedRealm$Realm;)Z"⟩
abbrev cX10_areClashing : ByteArray := prog_12_method_19_code
def yX10_areClashing : MethodName := ⟨RX10, "areClashing", "(LFoldedRealm$Realm;II)Z"⟩
abbrev cX10_foesOf : ByteArray := prog_12_method_20_code
def yX10_foesOf : MethodName := ⟨RX10, "foesOf", "(LFoldedRealm$Realm;I)I"⟩
abbrev cX10_clashCount : ByteArray := prog_12_method_21_code
def yX10_clashCount : MethodName := ⟨RX10, "clashCount", "(LFoldedRealm$Realm;)I"⟩
def RX11 : String := "FoldedRealm$Tokens"
def TX11 : u_T := fun k => match k with
  | 0 => ("FoldedRealm$Tokens", "signs", "[B", true)
  | 1 => ("FoldedRealm$Tokens", "length", "I", false)
  | 2 => ("FoldedRealm$Tokens", "next", "I", false)
  | 3 => ("FoldedRealm$Tokens", "place", "I", false)
  | 4 => ("FoldedRealm$Tokens", "sort", "LFoldedRealm$Sort;", false)
  | 5 => ("FoldedRealm$Tokens", "number", "I", false)
  | 6 => ("FoldedRealm$Tokens", "name", "J", false)
  | _ => ("FoldedRealm$Tokens", "fault", "I", false)
def tyX11 : Nat → FieldType := fun k => match k with
  | 0 => .array .byte
  | 1 => .int
  | 2 => .int
  | 3 => .int
  | 4 => .object "FoldedRealm$Sort"
  | 5 => .int
  | 6 => .long
  | _ => .int
abbrev wsX110 : List Cond := u_ws RX11 TX11 8
theorem nmX11 : ∀ a, a < 8 → ∀ b, b < 8 → a ≠ b → (TX11 a).2.1 ≠ (TX11 b).2.1 := by decide +kernel
theorem tyX11_ok : ∀ k, k < 8 → parseFieldDescriptor (TX11 k).2.2.1 = some (tyX11 k) := by decide +kernel
abbrev cX11_init : ByteArray := prog_13_method_1_code
def yX11_init : MethodName := ⟨RX11, "<init>", "()V"⟩
abbrev cX11_append : ByteArray := prog_13_method_2_code
def yX11_append : MethodName := ⟨RX11, "append", "(J)V"⟩
abbrev cX11_takeOff : ByteArray := prog_13_method_3_code
def yX11_takeOff : MethodName := ⟨RX11, "takeOff", "()V"⟩
abbrev cX11_begin : ByteArray := prog_13_method_4_code
def yX11_begin : MethodName := ⟨RX11, "begin", "()V"⟩
abbrev cX11_fail : ByteArray := prog_13_method_5_code
def yX11_fail : MethodName := ⟨RX11, "fail", "(I)Z"⟩
abbrev cX11_is : ByteArray := prog_13_method_6_code
def yX11_is : MethodName := ⟨RX11, "is", "(LFoldedRealm$Sort;)Z"⟩
abbrev cX11_skip : ByteArray := prog_13_method_7_code
def yX11_skip : MethodName := ⟨RX11, "skip", "(LFoldedRealm$Sort;)Z"⟩
abbrev cX11_step : ByteArray := prog_13_method_8_code
def yX11_step : MethodName := ⟨RX11, "step", "()V"⟩
abbrev cX11_takeLetters : ByteArray := prog_13_method_9_code
def yX11_takeLetters : MethodName := ⟨RX11, "takeLetters", "()V"⟩
abbrev cX11_takeDigits : ByteArray := prog_13_method_10_code
def yX11_takeDigits : MethodName := ⟨RX11, "takeDigits", "()V"⟩
abbrev cX11_sortTaken : ByteArray := prog_13_method_11_code
def yX11_sortTaken : MethodName := ⟨RX11, "sortTaken", "()LFoldedRealm$Sort;"⟩
abbrev cX11_hasText : ByteArray := prog_13_method_12_code
def yX11_hasText : MethodName := ⟨RX11, "hasText", "(Ljava/lang/String;)Z"⟩
abbrev cX11_isLetter : ByteArray := prog_13_method_13_code
def yX11_isLetter : MethodName := ⟨RX11, "isLetter", "(I)Z"⟩
abbrev cX11_isDigit : ByteArray := prog_13_method_14_code
def yX11_isDigit : MethodName := ⟨RX11, "isDigit", "(I)Z"⟩
def RX12 : String := "FoldedRealm"
def TX12 : u_T := fun k => match k with
  | 0 => ("FoldedRealm", "tokens", "LFoldedRealm$Tokens;", true)
  | 1 => ("FoldedRealm", "reader", "LFoldedRealm$Reader;", true)
  | 2 => ("FoldedRealm", "realm", "LFoldedRealm$Realm;", false)
  | 3 => ("FoldedRealm", "draft", "LFoldedRealm$Realm;", false)
  | 4 => ("FoldedRealm", "page", "LFoldedRealm$Page;", true)
  | 5 => ("FoldedRealm", "marks", "[LFoldedRealm$Page;", true)
  | 6 => ("FoldedRealm", "history", "LFoldedRealm$History;", true)
  | 7 => ("FoldedRealm", "trial", "LFoldedRealm$Standing;", true)
  | 8 => ("FoldedRealm", "odds", "LFoldedRealm$Odds;", true)
  | 9 => ("FoldedRealm", "shares", "LFoldedRealm$Shares;", true)
  | 10 => ("FoldedRealm", "seatShares", "[I", true)
  | _ => ("FoldedRealm", "foes", "[I", true)
def tyX12 : Nat → FieldType := fun k => match k with
  | 0 => .object "FoldedRealm$Tokens"
  | 1 => .object "FoldedRealm$Reader"
  | 2 => .object "FoldedRealm$Realm"
  | 3 => .object "FoldedRealm$Realm"
  | 4 => .object "FoldedRealm$Page"
  | 5 => .array (.object "FoldedRealm$Page")
  | 6 => .object "FoldedRealm$History"
  | 7 => .object "FoldedRealm$Standing"
  | 8 => .object "FoldedRealm$Odds"
  | 9 => .object "FoldedRealm$Shares"
  | 10 => .array .int
  | _ => .array .int
abbrev wsX120 : List Cond := u_ws RX12 TX12 12
theorem nmX12 : ∀ a, a < 12 → ∀ b, b < 12 → a ≠ b → (TX12 a).2.1 ≠ (TX12 b).2.1 := by decide +kernel
theorem tyX12_ok : ∀ k, k < 12 → parseFieldDescriptor (TX12 k).2.2.1 = some (tyX12 k) := by decide +kernel
abbrev cX12_init : ByteArray := prog_1_method_1_code
def yX12_init : MethodName := ⟨RX12, "<init>", "()V"⟩
abbrev cX12_feed : ByteArray := prog_1_method_2_code
def yX12_feed : MethodName := ⟨RX12, "feed", "(JJJ)I"⟩
abbrev cX12_realm : ByteArray := prog_1_method_3_code
def yX12_realm : MethodName := ⟨RX12, "realm", "()I"⟩
abbrev cX12_sundays : ByteArray := prog_1_method_4_code
def yX12_sundays : MethodName := ⟨RX12, "sundays", "()I"⟩
abbrev cX12_writer : ByteArray := prog_1_method_5_code
def yX12_writer : MethodName := ⟨RX12, "writer", "(II)I"⟩
abbrev cX12_word : ByteArray := prog_1_method_6_code
def yX12_word : MethodName := ⟨RX12, "word", "(II)I"⟩
abbrev cX12_likelyNow : ByteArray := prog_1_method_7_code
def yX12_likelyNow : MethodName := ⟨RX12, "likelyNow", "(I)I"⟩
abbrev cX12_strip : ByteArray := prog_1_method_8_code
def yX12_strip : MethodName := ⟨RX12, "strip", "(I)I"⟩
abbrev cX12_spike : ByteArray := prog_1_method_9_code
def yX12_spike : MethodName := ⟨RX12, "spike", "(II)I"⟩
abbrev cX12_write : ByteArray := prog_1_method_10_code
def yX12_write : MethodName := ⟨RX12, "write", "(I)I"⟩
abbrev cX12_pass : ByteArray := prog_1_method_11_code
def yX12_pass : MethodName := ⟨RX12, "pass", "()I"⟩
abbrev cX12_burn : ByteArray := prog_1_method_12_code
def yX12_burn : MethodName := ⟨RX12, "burn", "(I)I"⟩
abbrev cX12_undo : ByteArray := prog_1_method_13_code
def yX12_undo : MethodName := ⟨RX12, "undo", "()Z"⟩
abbrev cX12_judged : ByteArray := prog_1_method_14_code
def yX12_judged : MethodName := ⟨RX12, "judged", "(I)I"⟩
abbrev cX12_comes : ByteArray := prog_1_method_15_code
def yX12_comes : MethodName := ⟨RX12, "comes", "(I)I"⟩
abbrev cX12_best : ByteArray := prog_1_method_16_code
def yX12_best : MethodName := ⟨RX12, "best", "(I)I"⟩
abbrev cX12_worst : ByteArray := prog_1_method_17_code
def yX12_worst : MethodName := ⟨RX12, "worst", "()I"⟩
abbrev cX12_mean : ByteArray := prog_1_method_18_code
def yX12_mean : MethodName := ⟨RX12, "mean", "()I"⟩
abbrev cX12_aim : ByteArray := prog_1_method_19_code
def yX12_aim : MethodName := ⟨RX12, "aim", "(II)I"⟩
abbrev cX12_meet : ByteArray := prog_1_method_20_code
def yX12_meet : MethodName := ⟨RX12, "meet", "(III)I"⟩
abbrev cX12_sharedBy : ByteArray := prog_1_method_21_code
def yX12_sharedBy : MethodName := ⟨RX12, "sharedBy", "(II)I"⟩
abbrev cX12_clashes : ByteArray := prog_1_method_22_code
def yX12_clashes : MethodName := ⟨RX12, "clashes", "()I"⟩
abbrev cX12_fire : ByteArray := prog_1_method_23_code
def yX12_fire : MethodName := ⟨RX12, "fire", "()I"⟩
abbrev cX12_isPeaceWithout : ByteArray := prog_1_method_24_code
def yX12_isPeaceWithout : MethodName := ⟨RX12, "isPeaceWithout", "(I)Z"⟩
abbrev cX12_read : ByteArray := prog_1_method_25_code
def yX12_read : MethodName := ⟨RX12, "read", "(I)Z"⟩
abbrev cX12_began : ByteArray := prog_1_method_26_code
def yX12_began : MethodName := ⟨RX12, "began", "()I"⟩
abbrev cX12_sure : ByteArray := prog_1_method_27_code
def yX12_sure : MethodName := ⟨RX12, "sure", "()I"⟩
abbrev cX12_ask : ByteArray := prog_1_method_28_code
def yX12_ask : MethodName := ⟨RX12, "ask", "()I"⟩
abbrev cX12_likeliestBy : ByteArray := prog_1_method_29_code
def yX12_likeliestBy : MethodName := ⟨RX12, "likeliestBy", "(II)I"⟩
abbrev cX12_spent : ByteArray := prog_1_method_30_code
def yX12_spent : MethodName := ⟨RX12, "spent", "()I"⟩
abbrev cX12_rests : ByteArray := prog_1_method_31_code
def yX12_rests : MethodName := ⟨RX12, "rests", "(IIII)I"⟩
abbrev cX12_isPrize : ByteArray := prog_1_method_32_code
def yX12_isPrize : MethodName := ⟨RX12, "isPrize", "(I)Z"⟩
abbrev cX12_prize : ByteArray := prog_1_method_33_code
def yX12_prize : MethodName := ⟨RX12, "prize", "(IIIII)I"⟩
abbrev cX12_generations : ByteArray := prog_1_method_34_code
def yX12_generations : MethodName := ⟨RX12, "generations", "(III)I"⟩
abbrev cX12_mark : ByteArray := prog_1_method_35_code
def yX12_mark : MethodName := ⟨RX12, "mark", "(IZ)Z"⟩
abbrev cX12_count : ByteArray := prog_1_method_36_code
def yX12_count : MethodName := ⟨RX12, "count", "(I)I"⟩
def RX13 : String := "FoldedRealmModel"
def TX13 : u_T := fun k => match k with
  | 0 => ("FoldedRealmModel", "thrown", "I", false)
  | 1 => ("FoldedRealmModel", "taped", "I", false)
  | 2 => ("FoldedRealmModel", "tape", "[I", true)
  | 3 => ("FoldedRealmModel", "size", "I", false)
  | 4 => ("FoldedRealmModel", "place", "I", false)
  | 5 => ("FoldedRealmModel", "begin", "I", false)
  | 6 => ("FoldedRealmModel", "token", "I", false)
  | 7 => ("FoldedRealmModel", "word", "J", false)
  | 8 => ("FoldedRealmModel", "told", "I", false)
  | 9 => ("FoldedRealmModel", "wrong", "I", false)
  | 10 => ("FoldedRealmModel", "realm", "[I", true)
  | 11 => ("FoldedRealmModel", "writerName", "[J", true)
  | 12 => ("FoldedRealmModel", "wordName", "[J", true)
  | 13 => ("FoldedRealmModel", "kind", "[I", true)
  | 14 => ("FoldedRealmModel", "fold", "[I", true)
  | 15 => ("FoldedRealmModel", "weight", "[I", true)
  | 16 => ("FoldedRealmModel", "good", "[I", true)
  | 17 => ("FoldedRealmModel", "leftTold", "[I", true)
  | 18 => ("FoldedRealmModel", "likes", "[I", true)
  | 19 => ("FoldedRealmModel", "clashes", "[I", true)
  | 20 => ("FoldedRealmModel", "lineFrom", "[I", true)
  | 21 => ("FoldedRealmModel", "lineTo", "[I", true)
  | 22 => ("FoldedRealmModel", "codes", "[I", true)
  | 23 => ("FoldedRealmModel", "code", "I", false)
  | 24 => ("FoldedRealmModel", "lawLine", "I", false)
  | 25 => ("FoldedRealmModel", "isFolds", "Z", false)
  | 26 => ("FoldedRealmModel", "opened", "[I", true)
  | 27 => ("FoldedRealmModel", "compared", "[Z", true)
  | 28 => ("FoldedRealmModel", "kept", "[I", true)
  | 29 => ("FoldedRealmModel", "keptBy", "[I", true)
  | 30 => ("FoldedRealmModel", "ahead", "[I", true)
  | 31 => ("FoldedRealmModel", "against", "[I", true)
  | 32 => ("FoldedRealmModel", "sum", "[I", true)
  | 33 => ("FoldedRealmModel", "sumBy", "[I", true)
  | 34 => ("FoldedRealmModel", "term", "[I", true)
  | 35 => ("FoldedRealmModel", "termBy", "[I", true)
  | 36 => ("FoldedRealmModel", "byNot", "[I", true)
  | 37 => ("FoldedRealmModel", "valueOf", "[I", true)
  | 38 => ("FoldedRealmModel", "given", "I", false)
  | 39 => ("FoldedRealmModel", "fresh", "J", false)
  | 40 => ("FoldedRealmModel", "lines", "[I", true)
  | 41 => ("FoldedRealmModel", "lineWhat", "[I", true)
  | 42 => ("FoldedRealmModel", "lineN", "[I", true)
  | 43 => ("FoldedRealmModel", "reads0", "[I", true)
  | 44 => ("FoldedRealmModel", "readWord", "[I", true)
  | 45 => ("FoldedRealmModel", "s", "[I", true)
  | 46 => ("FoldedRealmModel", "aside", "[I", true)
  | 47 => ("FoldedRealmModel", "marked", "[I", true)
  | 48 => ("FoldedRealmModel", "undone", "[I", true)
  | 49 => ("FoldedRealmModel", "isLaid", "[Z", true)
  | 50 => ("FoldedRealmModel", "done", "I", false)
  | 51 => ("FoldedRealmModel", "goodCame", "I", false)
  | 52 => ("FoldedRealmModel", "above", "J", false)
  | 53 => ("FoldedRealmModel", "below", "J", false)
  | 54 => ("FoldedRealmModel", "row", "[I", true)
  | 55 => ("FoldedRealmModel", "bestRow", "[I", true)
  | 56 => ("FoldedRealmModel", "bestAbove", "J", false)
  | 57 => ("FoldedRealmModel", "bestBelow", "J", false)
  | 58 => ("FoldedRealmModel", "worstDoes", "I", false)
  | 59 => ("FoldedRealmModel", "meanDoes", "J", false)
  | 60 => ("FoldedRealmModel", "share", "[I", true)
  | 61 => ("FoldedRealmModel", "onlyAt", "[I", true)
  | _ => ("FoldedRealmModel", "g", "J", false)
def tyX13 : Nat → FieldType := fun k => match k with
  | 0 => .int
  | 1 => .int
  | 2 => .array .int
  | 3 => .int
  | 4 => .int
  | 5 => .int
  | 6 => .int
  | 7 => .long
  | 8 => .int
  | 9 => .int
  | 10 => .array .int
  | 11 => .array .long
  | 12 => .array .long
  | 13 => .array .int
  | 14 => .array .int
  | 15 => .array .int
  | 16 => .array .int
  | 17 => .array .int
  | 18 => .array .int
  | 19 => .array .int
  | 20 => .array .int
  | 21 => .array .int
  | 22 => .array .int
  | 23 => .int
  | 24 => .int
  | 25 => .boolean
  | 26 => .array .int
  | 27 => .array .boolean
  | 28 => .array .int
  | 29 => .array .int
  | 30 => .array .int
  | 31 => .array .int
  | 32 => .array .int
  | 33 => .array .int
  | 34 => .array .int
  | 35 => .array .int
  | 36 => .array .int
  | 37 => .array .int
  | 38 => .int
  | 39 => .long
  | 40 => .array .int
  | 41 => .array .int
  | 42 => .array .int
  | 43 => .array .int
  | 44 => .array .int
  | 45 => .array .int
  | 46 => .array .int
  | 47 => .array .int
  | 48 => .array .int
  | 49 => .array .boolean
  | 50 => .int
  | 51 => .int
  | 52 => .long
  | 53 => .long
  | 54 => .array .int
  | 55 => .array .int
  | 56 => .long
  | 57 => .long
  | 58 => .int
  | 59 => .long
  | 60 => .array .int
  | 61 => .array .int
  | _ => .long
abbrev wsX130 : List Cond := u_ws RX13 TX13 63
theorem nmX13 : ∀ a, a < 63 → ∀ b, b < 63 → a ≠ b → (TX13 a).2.1 ≠ (TX13 b).2.1 := by decide +kernel
theorem tyX13_ok : ∀ k, k < 63 → parseFieldDescriptor (TX13 k).2.2.1 = some (tyX13 k) := by decide +kernel
abbrev cX13_init : ByteArray := prog_15_method_1_code
def yX13_init : MethodName := ⟨RX13, "<init>", "()V"⟩
abbrev cX13_thrown : ByteArray := prog_15_method_2_code
def yX13_thrown : MethodName := ⟨RX13, "thrown", "()I"⟩
abbrev cX13_within : ByteArray := prog_15_method_3_code
def yX13_within : MethodName := ⟨RX13, "within", "(III)Z"⟩
abbrev cX13_between : ByteArray := prog_15_method_4_code
def yX13_between : MethodName := ⟨RX13, "between", "(III)I"⟩
abbrev cX13_bits : ByteArray := prog_15_method_5_code
def yX13_bits : MethodName := ⟨RX13, "bits", "(I)I"⟩
abbrev cX13_feed : ByteArray := prog_15_method_6_code
def yX13_feed : MethodName := ⟨RX13, "feed", "(JJJ)I"⟩
abbrev cX13_signAt : ByteArray := prog_15_method_7_code
def yX13_signAt : MethodName := ⟨RX13, "signAt", "(I)I"⟩
abbrev cX13_nextToken : ByteArray := prog_15_method_8_code
def yX13_nextToken : MethodName := ⟨RX13, "nextToken", "()V"⟩
abbrev cX13_isWord : ByteArray := prog_15_method_9_code
def yX13_isWord : MethodName := ⟨RX13, "isWord", "(J)Z"⟩
abbrev cX13_isSign : ByteArray := prog_15_method_10_code
def yX13_isSign : MethodName := ⟨RX13, "isSign", "(I)Z"⟩
abbrev cX13_fails : ByteArray := prog_15_method_11_code
def yX13_fails : MethodName := ⟨RX13, "fails", "(I)Z"⟩
abbrev cX13_puts : ByteArray := prog_15_method_12_code
def yX13_puts : MethodName := ⟨RX13, "puts", "(I)V"⟩
abbrev cX13_fact : ByteArray := prog_15_method_13_code
def yX13_fact : MethodName := ⟨RX13, "fact", "()I"⟩
abbrev cX13_reads : ByteArray := prog_15_method_14_code
def yX13_reads : MethodName := ⟨RX13, "reads", "()Z"⟩
abbrev cX13_opens : ByteArray := prog_15_method_15_code
def yX13_opens : MethodName := ⟨RX13, "opens", "(I)V"⟩
abbrev cX13_sums : ByteArray := prog_15_method_16_code
def yX13_sums : MethodName := ⟨RX13, "sums", "(I)V"⟩
abbrev cX13_tests : ByteArray := prog_15_method_17_code
def yX13_tests : MethodName := ⟨RX13, "tests", "(I)V"⟩
abbrev cX13_worked : ByteArray := prog_15_method_18_code
def yX13_worked : MethodName := ⟨RX13, "worked", "(I)I"⟩
abbrev cX13_isKept : ByteArray := prog_15_method_19_code
def yX13_isKept : MethodName := ⟨RX13, "isKept", "()Z"⟩
abbrev cX13_writerNamed : ByteArray := prog_15_method_20_code
def yX13_writerNamed : MethodName := ⟨RX13, "writerNamed", "()I"⟩
abbrev cX13_wordNamed : ByteArray := prog_15_method_21_code
def yX13_wordNamed : MethodName := ⟨RX13, "wordNamed", "(I)I"⟩
abbrev cX13_needsNumber : ByteArray := prog_15_method_22_code
def yX13_needsNumber : MethodName := ⟨RX13, "needsNumber", "(II)Z"⟩
abbrev cX13_needsBoth : ByteArray := prog_15_method_23_code
def yX13_needsBoth : MethodName := ⟨RX13, "needsBoth", "(JII)Z"⟩
abbrev cX13_closes : ByteArray := prog_15_method_24_code
def yX13_closes : MethodName := ⟨RX13, "closes", "()Z"⟩
abbrev cX13_needsNew : ByteArray := prog_15_method_25_code
def yX13_needsNew : MethodName := ⟨RX13, "needsNew", "()Z"⟩
abbrev cX13_needsToldWord : ByteArray := prog_15_method_26_code
def yX13_needsToldWord : MethodName := ⟨RX13, "needsToldWord", "(I)Z"⟩
abbrev cX13_readsWriter : ByteArray := prog_15_method_27_code
def yX13_readsWriter : MethodName := ⟨RX13, "readsWriter", "()Z"⟩
abbrev cX13_readsWord : ByteArray := prog_15_method_28_code
def yX13_readsWord : MethodName := ⟨RX13, "readsWord", "()Z"⟩
abbrev cX13_readsLikes : ByteArray := prog_15_method_29_code
def yX13_readsLikes : MethodName := ⟨RX13, "readsLikes", "()Z"⟩
abbrev cX13_readsClash : ByteArray := prog_15_method_30_code
def yX13_readsClash : MethodName := ⟨RX13, "readsClash", "()Z"⟩
abbrev cX13_readsFolds : ByteArray := prog_15_method_31_code
def yX13_readsFolds : MethodName := ⟨RX13, "readsFolds", "()Z"⟩
abbrev cX13_readsLaw : ByteArray := prog_15_method_32_code
def yX13_readsLaw : MethodName := ⟨RX13, "readsLaw", "(I)Z"⟩
abbrev cX13_begins : ByteArray := prog_15_method_33_code
def yX13_begins : MethodName := ⟨RX13, "begins", "()V"⟩
abbrev cX13_readsAll : ByteArray := prog_15_method_34_code
def yX13_readsAll : MethodName := ⟨RX13, "readsAll", "()Z"⟩
abbrev cX13_shifts : ByteArray := prog_15_method_35_code
def yX13_shifts : MethodName := ⟨RX13, "shifts", "([II)V"⟩
abbrev cX13_lays : ByteArray := prog_15_method_36_code
def yX13_lays : MethodName := ⟨RX13, "lays", "()V"⟩
abbrev cX13_copies : ByteArray := prog_15_method_37_code
def yX13_copies : MethodName := ⟨RX13, "copies", "([II[II)V"⟩
abbrev cX13_readsLine : ByteArray := prog_15_method_38_code
def yX13_readsLine : MethodName := ⟨RX13, "readsLine", "()Z"⟩
abbrev cX13_laysLines : ByteArray := prog_15_method_39_code
def yX13_laysLines : MethodName := ⟨RX13, "laysLines", "(II)V"⟩
abbrev cX13_laysRead : ByteArray := prog_15_method_40_code
def yX13_laysRead : MethodName := ⟨RX13, "laysRead", "(II)V"⟩
abbrev cX13_fresh : ByteArray := prog_15_method_41_code
def yX13_fresh : MethodName := ⟨RX13, "fresh", "()V"⟩
abbrev cX13_realm : ByteArray := prog_15_method_42_code
def yX13_realm : MethodName := ⟨RX13, "realm", "()I"⟩
abbrev cX13_sundays : ByteArray := prog_15_method_43_code
def yX13_sundays : MethodName := ⟨RX13, "sundays", "()I"⟩
abbrev cX13_isWriter : ByteArray := prog_15_method_44_code
def yX13_isWriter : MethodName := ⟨RX13, "isWriter", "(I)Z"⟩
abbrev cX13_isTold : ByteArray := prog_15_method_45_code
def yX13_isTold : MethodName := ⟨RX13, "isTold", "(I)Z"⟩
abbrev cX13_writerOf : ByteArray := prog_15_method_46_code
def yX13_writerOf : MethodName := ⟨RX13, "writerOf", "(II)I"⟩
abbrev cX13_likelyBy : ByteArray := prog_15_method_47_code
def yX13_likelyBy : MethodName := ⟨RX13, "likelyBy", "(III)I"⟩
abbrev cX13_aheadOf : ByteArray := prog_15_method_48_code
def yX13_aheadOf : MethodName := ⟨RX13, "aheadOf", "(I)I"⟩
abbrev cX13_likelyNow : ByteArray := prog_15_method_49_code
def yX13_likelyNow : MethodName := ⟨RX13, "likelyNow", "(I)I"⟩
abbrev cX13_allLikely : ByteArray := prog_15_method_50_code
def yX13_allLikely : MethodName := ⟨RX13, "allLikely", "(III)I"⟩
abbrev cX13_doesBy : ByteArray := prog_15_method_51_code
def yX13_doesBy : MethodName := ⟨RX13, "doesBy", "(II)I"⟩
abbrev cX13_writer : ByteArray := prog_15_method_52_code
def yX13_writer : MethodName := ⟨RX13, "writer", "(II)I"⟩
abbrev cX13_word : ByteArray := prog_15_method_53_code
def yX13_word : MethodName := ⟨RX13, "word", "(II)I"⟩
abbrev cX13_strip : ByteArray := prog_15_method_54_code
def yX13_strip : MethodName := ⟨RX13, "strip", "(I)I"⟩
abbrev cX13_spike : ByteArray := prog_15_method_55_code
def yX13_spike : MethodName := ⟨RX13, "spike", "(II)I"⟩
abbrev cX13_keeps : ByteArray := prog_15_method_56_code
def yX13_keeps : MethodName := ⟨RX13, "keeps", "()V"⟩
abbrev cX13_canWrite : ByteArray := prog_15_method_57_code
def yX13_canWrite : MethodName := ⟨RX13, "canWrite", "(I)Z"⟩
abbrev cX13_fallsOff : ByteArray := prog_15_method_58_code
def yX13_fallsOff : MethodName := ⟨RX13, "fallsOff", "(I)V"⟩
abbrev cX13_ends : ByteArray := prog_15_method_59_code
def yX13_ends : MethodName := ⟨RX13, "ends", "()V"⟩
abbrev cX13_laysWord : ByteArray := prog_15_method_60_code
def yX13_laysWord : MethodName := ⟨RX13, "laysWord", "(I)V"⟩
abbrev cX13_burns : ByteArray := prog_15_method_61_code
def yX13_burns : MethodName := ⟨RX13, "burns", "(I)V"⟩
abbrev cX13_canPass : ByteArray := prog_15_method_62_code
def yX13_canPass : MethodName := ⟨RX13, "canPass", "()Z"⟩
abbrev cX13_write : ByteArray := prog_15_method_63_code
def yX13_write : MethodName := ⟨RX13, "write", "(I)I"⟩
abbrev cX13_pass : ByteArray := prog_15_method_64_code
def yX13_pass : MethodName := ⟨RX13, "pass", "()I"⟩
abbrev cX13_burn : ByteArray := prog_15_method_65_code
def yX13_burn : MethodName := ⟨RX13, "burn", "(I)I"⟩
abbrev cX13_undo : ByteArray := prog_15_method_66_code
def yX13_undo : MethodName := ⟨RX13, "undo", "()Z"⟩
abbrev cX13_wordsOf : ByteArray := prog_15_method_67_code
def yX13_wordsOf : MethodName := ⟨RX13, "wordsOf", "(I)I"⟩
abbrev cX13_doClash : ByteArray := prog_15_method_68_code
def yX13_doClash : MethodName := ⟨RX13, "doClash", "(II)Z"⟩
abbrev cX13_clashesOf : ByteArray := prog_15_method_69_code
def yX13_clashesOf : MethodName := ⟨RX13, "clashesOf", "(I)I"⟩
abbrev cX13_allWholes : ByteArray := prog_15_method_70_code
def yX13_allWholes : MethodName := ⟨RX13, "allWholes", "()I"⟩
abbrev cX13_goes : ByteArray := prog_15_method_71_code
def yX13_goes : MethodName := ⟨RX13, "goes", "(I)Z"⟩
abbrev cX13_doesLastClash : ByteArray := prog_15_method_72_code
def yX13_doesLastClash : MethodName := ⟨RX13, "doesLastClash", "()Z"⟩
abbrev cX13_judged : ByteArray := prog_15_method_73_code
def yX13_judged : MethodName := ⟨RX13, "judged", "(I)I"⟩
abbrev cX13_goesOn : ByteArray := prog_15_method_74_code
def yX13_goesOn : MethodName := ⟨RX13, "goesOn", "(III)Z"⟩
abbrev cX13_wordIn : ByteArray := prog_15_method_75_code
def yX13_wordIn : MethodName := ⟨RX13, "wordIn", "(II)I"⟩
abbrev cX13_comes : ByteArray := prog_15_method_76_code
def yX13_comes : MethodName := ⟨RX13, "comes", "(I)I"⟩
abbrev cX13_endsRow : ByteArray := prog_15_method_77_code
def yX13_endsRow : MethodName := ⟨RX13, "endsRow", "(II)V"⟩
abbrev cX13_rows : ByteArray := prog_15_method_78_code
def yX13_rows : MethodName := ⟨RX13, "rows", "(IIII)V"⟩
abbrev cX13_laysRows : ByteArray := prog_15_method_79_code
def yX13_laysRows : MethodName := ⟨RX13, "laysRows", "()V"⟩
abbrev cX13_best : ByteArray := prog_15_method_80_code
def yX13_best : MethodName := ⟨RX13, "best", "(I)I"⟩
abbrev cX13_worst : ByteArray := prog_15_method_81_code
def yX13_worst : MethodName := ⟨RX13, "worst", "()I"⟩
abbrev cX13_mean : ByteArray := prog_15_method_82_code
def yX13_mean : MethodName := ⟨RX13, "mean", "()I"⟩
abbrev cX13_noneOnly : ByteArray := prog_15_method_83_code
def yX13_noneOnly : MethodName := ⟨RX13, "noneOnly", "()V"⟩
abbrev cX13_goesOnAt : ByteArray := prog_15_method_84_code
def yX13_goesOnAt : MethodName := ⟨RX13, "goesOnAt", "(II)Z"⟩
abbrev cX13_sharesFrom : ByteArray := prog_15_method_85_code
def yX13_sharesFrom : MethodName := ⟨RX13, "sharesFrom", "(IIII)V"⟩
abbrev cX13_sharesOut : ByteArray := prog_15_method_86_code
def yX13_sharesOut : MethodName := ⟨RX13, "sharesOut", "(III)I"⟩
abbrev cX13_aim : ByteArray := prog_15_method_87_code
def yX13_aim : MethodName := ⟨RX13, "aim", "(II)I"⟩
abbrev cX13_meet : ByteArray := prog_15_method_88_code
def yX13_meet : MethodName := ⟨RX13, "meet", "(III)I"⟩
abbrev cX13_clashes : ByteArray := prog_15_method_89_code
def yX13_clashes : MethodName := ⟨RX13, "clashes", "()I"⟩
abbrev cX13_fire : ByteArray := prog_15_method_90_code
def yX13_fire : MethodName := ⟨RX13, "fire", "()I"⟩
abbrev cX13_read : ByteArray := prog_15_method_91_code
def yX13_read : MethodName := ⟨RX13, "read", "(I)Z"⟩
abbrev cX13_laysOnly : ByteArray := prog_15_method_92_code
def yX13_laysOnly : MethodName := ⟨RX13, "laysOnly", "()Z"⟩
abbrev cX13_beganBy : ByteArray := prog_15_method_93_code
def yX13_beganBy : MethodName := ⟨RX13, "beganBy", "()I"⟩
abbrev cX13_began : ByteArray := prog_15_method_94_code
def yX13_began : MethodName := ⟨RX13, "began", "()I"⟩
abbrev cX13_sure : ByteArray := prog_15_method_95_code
def yX13_sure : MethodName := ⟨RX13, "sure", "()I"⟩
abbrev cX13_likeliest : ByteArray := prog_15_method_96_code
def yX13_likeliest : MethodName := ⟨RX13, "likeliest", "(II)I"⟩
abbrev cX13_ask : ByteArray := prog_15_method_97_code
def yX13_ask : MethodName := ⟨RX13, "ask", "()I"⟩
abbrev cX13_spent : ByteArray := prog_15_method_98_code
def yX13_spent : MethodName := ⟨RX13, "spent", "()I"⟩
abbrev cX13_getsBy : ByteArray := prog_15_method_99_code
def yX13_getsBy : MethodName := ⟨RX13, "getsBy", "(IIIII)I"⟩
abbrev cX13_rests : ByteArray := prog_15_method_100_code
def yX13_rests : MethodName := ⟨RX13, "rests", "(IIII)I"⟩
abbrev cX13_draws : ByteArray := prog_15_method_101_code
def yX13_draws : MethodName := ⟨RX13, "draws", "(I)I"⟩
abbrev cX13_livesWord : ByteArray := prog_15_method_102_code
def yX13_livesWord : MethodName := ⟨RX13, "livesWord", "()Z"⟩
abbrev cX13_generations : ByteArray := prog_15_method_103_code
def yX13_generations : MethodName := ⟨RX13, "generations", "(III)I"⟩
abbrev cX13_mark : ByteArray := prog_15_method_104_code
def yX13_mark : MethodName := ⟨RX13, "mark", "(IZ)Z"⟩
abbrev cX13_allLeft : ByteArray := prog_15_method_105_code
def yX13_allLeft : MethodName := ⟨RX13, "allLeft", "()I"⟩
abbrev cX13_count : ByteArray := prog_15_method_106_code
def yX13_count : MethodName := ⟨RX13, "count", "(I)I"⟩
def RJx145de : String := "java/io/Serializable"
def TJx145de : u_T := fun k => match k with
  | _ => ("", "", "", false)
def tyJx145de : Nat → FieldType := fun k => match k with
  | _ => .int
abbrev wsJx145de0 : List Cond := u_ws RJx145de TJx145de 0
theorem nmJx145de : ∀ a, a < 0 → ∀ b, b < 0 → a ≠ b → (TJx145de a).2.1 ≠ (TJx145de b).2.1 := by decide +kernel
theorem tyJx145de_ok : ∀ k, k < 0 → parseFieldDescriptor (TJx145de k).2.2.1 = some (tyJx145de k) := by decide +kernel
def RJx9f9b0 : String := "java/lang/CharSequence"
def TJx9f9b0 : u_T := fun k => match k with
  | _ => ("", "", "", false)
def tyJx9f9b0 : Nat → FieldType := fun k => match k with
  | _ => .int
abbrev wsJx9f9b00 : List Cond := u_ws RJx9f9b0 TJx9f9b0 0
theorem nmJx9f9b0 : ∀ a, a < 0 → ∀ b, b < 0 → a ≠ b → (TJx9f9b0 a).2.1 ≠ (TJx9f9b0 b).2.1 := by decide +kernel
theorem tyJx9f9b0_ok : ∀ k, k < 0 → parseFieldDescriptor (TJx9f9b0 k).2.2.1 = some (tyJx9f9b0 k) := by decide +kernel
def RJxb160c : String := "java/lang/Comparable"
def TJxb160c : u_T := fun k => match k with
  | _ => ("", "", "", false)
def tyJxb160c : Nat → FieldType := fun k => match k with
  | _ => .int
abbrev wsJxb160c0 : List Cond := u_ws RJxb160c TJxb160c 0
theorem nmJxb160c : ∀ a, a < 0 → ∀ b, b < 0 → a ≠ b → (TJxb160c a).2.1 ≠ (TJxb160c b).2.1 := by decide +kernel
theorem tyJxb160c_ok : ∀ k, k < 0 → parseFieldDescriptor (TJxb160c k).2.2.1 = some (tyJxb160c k) := by decide +kernel
def RJx29ce0 : String := "java/lang/Enum"
def TJx29ce0 : u_T := fun k => match k with
  | _ => ("", "", "", false)
def tyJx29ce0 : Nat → FieldType := fun k => match k with
  | _ => .int
abbrev wsJx29ce00 : List Cond := u_ws RJx29ce0 TJx29ce0 0
theorem nmJx29ce0 : ∀ a, a < 0 → ∀ b, b < 0 → a ≠ b → (TJx29ce0 a).2.1 ≠ (TJx29ce0 b).2.1 := by decide +kernel
theorem tyJx29ce0_ok : ∀ k, k < 0 → parseFieldDescriptor (TJx29ce0 k).2.2.1 = some (tyJx29ce0 k) := by decide +kernel
abbrev cJx29ce0_ordinal_8abf5 : ByteArray := prog_19_method_2_code
def yJx29ce0_ordinal_8abf5 : MethodName := ⟨RJx29ce0, "ordinal", "()I"⟩
def RJ6 : String := "java/lang/Integer"
def TJ6 : u_T := fun k => match k with
  | _ => ("", "", "", false)
def tyJ6 : Nat → FieldType := fun k => match k with
  | _ => .int
abbrev wsJ60 : List Cond := u_ws RJ6 TJ6 0
theorem nmJ6 : ∀ a, a < 0 → ∀ b, b < 0 → a ≠ b → (TJ6 a).2.1 ≠ (TJ6 b).2.1 := by decide +kernel
theorem tyJ6_ok : ∀ k, k < 0 → parseFieldDescriptor (TJ6 k).2.2.1 = some (tyJ6 k) := by decide +kernel
abbrev cJ6_bitCount_0f7a4 : ByteArray := prog_21_method_49_code
def yJ6_bitCount_0f7a4 : MethodName := ⟨RJ6, "bitCount", "(I)I"⟩
def RJ9 : String := "java/lang/Math"
def TJ9 : u_T := fun k => match k with
  | _ => ("", "", "", false)
def tyJ9 : Nat → FieldType := fun k => match k with
  | _ => .int
abbrev wsJ90 : List Cond := u_ws RJ9 TJ9 0
theorem nmJ9 : ∀ a, a < 0 → ∀ b, b < 0 → a ≠ b → (TJ9 a).2.1 ≠ (TJ9 b).2.1 := by decide +kernel
theorem tyJ9_ok : ∀ k, k < 0 → parseFieldDescriptor (TJ9 k).2.2.1 = some (tyJ9 k) := by decide +kernel
abbrev cJ9_floorMod_7cf53 : ByteArray := prog_22_method_50_code
def yJ9_floorMod_7cf53 : MethodName := ⟨RJ9, "floorMod", "(II)I"⟩
abbrev cJ9_max_7cf53 : ByteArray := prog_22_method_65_code
def yJ9_max_7cf53 : MethodName := ⟨RJ9, "max", "(II)I"⟩
abbrev cJ9_min_7cf53 : ByteArray := prog_22_method_69_code
def yJ9_min_7cf53 : MethodName := ⟨RJ9, "min", "(II)I"⟩
def RJ0 : String := "java/lang/String"
def TJ0 : u_T := fun k => match k with
  | _ => ("", "", "", false)
def tyJ0 : Nat → FieldType := fun k => match k with
  | _ => .int
abbrev wsJ00 : List Cond := u_ws RJ0 TJ0 0
theorem nmJ0 : ∀ a, a < 0 → ∀ b, b < 0 → a ≠ b → (TJ0 a).2.1 ≠ (TJ0 b).2.1 := by decide +kernel
theorem tyJ0_ok : ∀ k, k < 0 → parseFieldDescriptor (TJ0 k).2.2.1 = some (tyJ0 k) := by decide +kernel
abbrev cJ0_length_8abf5 : ByteArray := prog_24_method_54_code
def yJ0_length_8abf5 : MethodName := ⟨RJ0, "length", "()I"⟩
abbrev cJ0_charAt_5068e : ByteArray := prog_24_method_56_code
def yJ0_charAt_5068e : MethodName := ⟨RJ0, "charAt", "(I)C"⟩
abbrev cJ0_coder_7d493 : ByteArray := prog_24_method_152_code
def yJ0_coder_7d493 : MethodName := ⟨RJ0, "coder", "()B"⟩
abbrev cJ0_isLatin1_aae02 : ByteArray := prog_24_method_154_code
def yJ0_isLatin1_aae02 : MethodName := ⟨RJ0, "isLatin1", "()Z"⟩
abbrev cJ0_checkIndex_df160 : ByteArray := prog_24_method_155_code
def yJ0_checkIndex_df160 : MethodName := ⟨RJ0, "checkIndex", "(II)V"⟩
def RJ1 : String := "java/lang/StringLatin1"
def TJ1 : u_T := fun k => match k with
  | _ => ("", "", "", false)
def tyJ1 : Nat → FieldType := fun k => match k with
  | _ => .int
abbrev wsJ10 : List Cond := u_ws RJ1 TJ1 0
theorem nmJ1 : ∀ a, a < 0 → ∀ b, b < 0 → a ≠ b → (TJ1 a).2.1 ≠ (TJ1 b).2.1 := by decide +kernel
theorem tyJ1_ok : ∀ k, k < 0 → parseFieldDescriptor (TJ1 k).2.2.1 = some (tyJ1 k) := by decide +kernel
abbrev cJ1_charAt_3b067 : ByteArray := prog_25_method_2_code
def yJ1_charAt_3b067 : MethodName := ⟨RJ1, "charAt", "([BI)C"⟩
def RJ2 : String := "java/lang/StringUTF16"
def TJ2 : u_T := fun k => match k with
  | _ => ("", "", "", false)
def tyJ2 : Nat → FieldType := fun k => match k with
  | _ => .int
abbrev wsJ20 : List Cond := u_ws RJ2 TJ2 0
theorem nmJ2 : ∀ a, a < 0 → ∀ b, b < 0 → a ≠ b → (TJ2 a).2.1 ≠ (TJ2 b).2.1 := by decide +kernel
theorem tyJ2_ok : ∀ k, k < 0 → parseFieldDescriptor (TJ2 k).2.2.1 = some (tyJ2 k) := by decide +kernel
abbrev cJ2_getChar_3b067 : ByteArray := prog_26_method_5_code
def yJ2_getChar_3b067 : MethodName := ⟨RJ2, "getChar", "([BI)C"⟩
abbrev cJ2_length_9d52b : ByteArray := prog_26_method_6_code
def yJ2_length_9d52b : MethodName := ⟨RJ2, "length", "([B)I"⟩
abbrev cJ2_charAt_3b067 : ByteArray := prog_26_method_83_code
def yJ2_charAt_3b067 : MethodName := ⟨RJ2, "charAt", "([BI)C"⟩
abbrev cJ2_checkIndex_2214a : ByteArray := prog_26_method_91_code
def yJ2_checkIndex_2214a : MethodName := ⟨RJ2, "checkIndex", "(I[B)V"⟩
def RJ10 : String := "java/lang/System"
def TJ10 : u_T := fun k => match k with
  | _ => ("", "", "", false)
def tyJ10 : Nat → FieldType := fun k => match k with
  | _ => .int
abbrev wsJ100 : List Cond := u_ws RJ10 TJ10 0
theorem nmJ10 : ∀ a, a < 0 → ∀ b, b < 0 → a ≠ b → (TJ10 a).2.1 ≠ (TJ10 b).2.1 := by decide +kernel
theorem tyJ10_ok : ∀ k, k < 0 → parseFieldDescriptor (TJ10 k).2.2.1 = some (tyJ10 k) := by decide +kernel
def RJxfd54e : String := "java/lang/constant/Constable"
def TJxfd54e : u_T := fun k => match k with
  | _ => ("", "", "", false)
def tyJxfd54e : Nat → FieldType := fun k => match k with
  | _ => .int
abbrev wsJxfd54e0 : List Cond := u_ws RJxfd54e TJxfd54e 0
theorem nmJxfd54e : ∀ a, a < 0 → ∀ b, b < 0 → a ≠ b → (TJxfd54e a).2.1 ≠ (TJxfd54e b).2.1 := by decide +kernel
theorem tyJxfd54e_ok : ∀ k, k < 0 → parseFieldDescriptor (TJxfd54e k).2.2.1 = some (tyJxfd54e k) := by decide +kernel
def RJx3cf43 : String := "java/lang/constant/ConstantDesc"
def TJx3cf43 : u_T := fun k => match k with
  | _ => ("", "", "", false)
def tyJx3cf43 : Nat → FieldType := fun k => match k with
  | _ => .int
abbrev wsJx3cf430 : List Cond := u_ws RJx3cf43 TJx3cf43 0
theorem nmJx3cf43 : ∀ a, a < 0 → ∀ b, b < 0 → a ≠ b → (TJx3cf43 a).2.1 ≠ (TJx3cf43 b).2.1 := by decide +kernel
theorem tyJx3cf43_ok : ∀ k, k < 0 → parseFieldDescriptor (TJx3cf43 k).2.2.1 = some (tyJx3cf43 k) := by decide +kernel
def RJ3 : String := "jdk/internal/util/Preconditions"
def TJ3 : u_T := fun k => match k with
  | _ => ("", "", "", false)
def tyJ3 : Nat → FieldType := fun k => match k with
  | _ => .int
abbrev wsJ30 : List Cond := u_ws RJ3 TJ3 0
theorem nmJ3 : ∀ a, a < 0 → ∀ b, b < 0 → a ≠ b → (TJ3 a).2.1 ≠ (TJ3 b).2.1 := by decide +kernel
theorem tyJ3_ok : ∀ k, k < 0 → parseFieldDescriptor (TJ3 k).2.2.1 = some (tyJ3 k) := by decide +kernel
abbrev cJ3_checkIndex_8e157 : ByteArray := prog_32_method_11_code
def yJ3_checkIndex_8e157 : MethodName := ⟨RJ3, "checkIndex", "(IILjava/util/function/BiFunction;)I"⟩
def RL : String := "FoldedRealmLaw"
abbrev cL_rests : ByteArray := method_3_code
def yL_rests : MethodName := ⟨RL, "rests", "(LFoldedRealm;IIII[J)I"⟩
abbrev cL_law : ByteArray := code
def yL_law : MethodName := ⟨RL, "law", "([I)Z"⟩
end
section
/-! the words that every method is given: the good ones of the tables; where they stand, by a program -/
def aWS : List Cond := lw_tbl.filter goodWord
theorem aWS_in : ∀ w ∈ aWS, w ∈ lw_tbl := fun _ h => (List.mem_filter.mp h).1
theorem aWS_goodIn {big : List Cond} (hb : ∀ w ∈ aWS, w ∈ big) {ws : List Cond} (hw : ∀ w ∈ ws, w ∈ aWS) : GoodIn big ws := fun w h => ⟨hb w (hw w h), good_of_word (List.mem_filter.mp (hw w h)).2⟩
theorem aW_t (i : Nat) {w : Cond} (h : tables_1[i]? = some w) (g : goodWord w = true) : w ∈ aWS := List.mem_filter.mpr ⟨List.mem_append_right _ (List.mem_of_getElem? h), g⟩
theorem aW_s (i : Nat) {w : Cond} (h : (k2_sels lw_privs)[i]? = some w) (g : goodWord w = true) : w ∈ aWS := List.mem_filter.mpr ⟨List.mem_append_left _ (List.mem_of_getElem? h), g⟩
theorem inWX1 : ∀ w ∈ wsX10, w ∈ aWS := by
  have h : ∀ k, k < 6 → u_lay RX1 TX1 k ∈ aWS := by
    intro k hk
    match k, hk with
    | 0, _ => exact aW_t 128 (by decide +kernel) (by decide +kernel)
    | 1, _ => exact aW_t 130 (by decide +kernel) (by decide +kernel)
    | 2, _ => exact aW_t 132 (by decide +kernel) (by decide +kernel)
    | 3, _ => exact aW_t 134 (by decide +kernel) (by decide +kernel)
    | 4, _ => exact aW_t 136 (by decide +kernel) (by decide +kernel)
    | 5, _ => exact aW_t 138 (by decide +kernel) (by decide +kernel)
  intro w hw
  obtain ⟨k, hk, rfl⟩ := List.mem_map.mp hw
  exact h k (List.mem_range.mp hk)
theorem inWX2 : ∀ w ∈ wsX20, w ∈ aWS := by
  have h : ∀ k, k < 1 → u_lay RX2 TX2 k ∈ aWS := by
    intro k hk
    match k, hk with
    | 0, _ => exact aW_t 89 (by decide +kernel) (by decide +kernel)
  intro w hw
  obtain ⟨k, hk, rfl⟩ := List.mem_map.mp hw
  exact h k (List.mem_range.mp hk)
theorem inWX3 : ∀ w ∈ wsX30, w ∈ aWS := by
  have h : ∀ k, k < 3 → u_lay RX3 TX3 k ∈ aWS := by
    intro k hk
    match k, hk with
    | 0, _ => exact aW_t 294 (by decide +kernel) (by decide +kernel)
    | 1, _ => exact aW_t 296 (by decide +kernel) (by decide +kernel)
    | 2, _ => exact aW_t 298 (by decide +kernel) (by decide +kernel)
  intro w hw
  obtain ⟨k, hk, rfl⟩ := List.mem_map.mp hw
  exact h k (List.mem_range.mp hk)
theorem inWX4 : ∀ w ∈ wsX40, w ∈ aWS := by
  have h : ∀ k, k < 7 → u_lay RX4 TX4 k ∈ aWS := by
    intro k hk
    match k, hk with
    | 0, _ => exact aW_t 318 (by decide +kernel) (by decide +kernel)
    | 1, _ => exact aW_t 320 (by decide +kernel) (by decide +kernel)
    | 2, _ => exact aW_t 322 (by decide +kernel) (by decide +kernel)
    | 3, _ => exact aW_t 324 (by decide +kernel) (by decide +kernel)
    | 4, _ => exact aW_t 326 (by decide +kernel) (by decide +kernel)
    | 5, _ => exact aW_t 328 (by decide +kernel) (by decide +kernel)
    | 6, _ => exact aW_t 330 (by decide +kernel) (by decide +kernel)
  intro w hw
  obtain ⟨k, hk, rfl⟩ := List.mem_map.mp hw
  exact h k (List.mem_range.mp hk)
theorem inWX5 : ∀ w ∈ wsX50, w ∈ aWS := by
  have h : ∀ k, k < 6 → u_lay RX5 TX5 k ∈ aWS := by
    intro k hk
    match k, hk with
    | 0, _ => exact aW_t 267 (by decide +kernel) (by decide +kernel)
    | 1, _ => exact aW_t 269 (by decide +kernel) (by decide +kernel)
    | 2, _ => exact aW_t 271 (by decide +kernel) (by decide +kernel)
    | 3, _ => exact aW_t 273 (by decide +kernel) (by decide +kernel)
    | 4, _ => exact aW_t 275 (by decide +kernel) (by decide +kernel)
    | 5, _ => exact aW_t 277 (by decide +kernel) (by decide +kernel)
  intro w hw
  obtain ⟨k, hk, rfl⟩ := List.mem_map.mp hw
  exact h k (List.mem_range.mp hk)
theorem inWX6 : ∀ w ∈ wsX60, w ∈ aWS := by
  have h : ∀ k, k < 4 → u_lay RX6 TX6 k ∈ aWS := by
    intro k hk
    match k, hk with
    | 0, _ => exact aW_t 99 (by decide +kernel) (by decide +kernel)
    | 1, _ => exact aW_t 101 (by decide +kernel) (by decide +kernel)
    | 2, _ => exact aW_t 103 (by decide +kernel) (by decide +kernel)
    | 3, _ => exact aW_t 105 (by decide +kernel) (by decide +kernel)
  intro w hw
  obtain ⟨k, hk, rfl⟩ := List.mem_map.mp hw
  exact h k (List.mem_range.mp hk)
theorem inWX7 : ∀ w ∈ wsX70, w ∈ aWS := by
  have h : ∀ k, k < 16 → u_lay RX7 TX7 k ∈ aWS := by
    intro k hk
    match k, hk with
    | 0, _ => exact aW_t 183 (by decide +kernel) (by decide +kernel)
    | 1, _ => exact aW_t 185 (by decide +kernel) (by decide +kernel)
    | 2, _ => exact aW_t 187 (by decide +kernel) (by decide +kernel)
    | 3, _ => exact aW_t 189 (by decide +kernel) (by decide +kernel)
    | 4, _ => exact aW_t 191 (by decide +kernel) (by decide +kernel)
    | 5, _ => exact aW_t 193 (by decide +kernel) (by decide +kernel)
    | 6, _ => exact aW_t 195 (by decide +kernel) (by decide +kernel)
    | 7, _ => exact aW_t 197 (by decide +kernel) (by decide +kernel)
    | 8, _ => exact aW_t 199 (by decide +kernel) (by decide +kernel)
    | 9, _ => exact aW_t 201 (by decide +kernel) (by decide +kernel)
    | 10, _ => exact aW_t 203 (by decide +kernel) (by decide +kernel)
    | 11, _ => exact aW_t 205 (by decide +kernel) (by decide +kernel)
    | 12, _ => exact aW_t 207 (by decide +kernel) (by decide +kernel)
    | 13, _ => exact aW_t 209 (by decide +kernel) (by decide +kernel)
    | 14, _ => exact aW_t 211 (by decide +kernel) (by decide +kernel)
    | 15, _ => exact aW_t 213 (by decide +kernel) (by decide +kernel)
    | k + 16, hk => exact absurd hk (by omega)
  intro w hw
  obtain ⟨k, hk, rfl⟩ := List.mem_map.mp hw
  exact h k (List.mem_range.mp hk)
theorem inWX8 : ∀ w ∈ wsX80, w ∈ aWS := by
  have h : ∀ k, k < 1 → u_lay RX8 TX8 k ∈ aWS := by
    intro k hk
    match k, hk with
    | 0, _ => exact aW_t 340 (by decide +kernel) (by decide +kernel)
  intro w hw
  obtain ⟨k, hk, rfl⟩ := List.mem_map.mp hw
  exact h k (List.mem_range.mp hk)
theorem inWX10 : ∀ w ∈ wsX100, w ∈ aWS := by
  have h : ∀ k, k < 7 → u_lay RX10 TX10 k ∈ aWS := by
    intro k hk
    match k, hk with
    | 0, _ => exact aW_t 242 (by decide +kernel) (by decide +kernel)
    | 1, _ => exact aW_t 244 (by decide +kernel) (by decide +kernel)
    | 2, _ => exact aW_t 246 (by decide +kernel) (by decide +kernel)
    | 3, _ => exact aW_t 248 (by decide +kernel) (by decide +kernel)
    | 4, _ => exact aW_t 250 (by decide +kernel) (by decide +kernel)
    | 5, _ => exact aW_t 252 (by decide +kernel) (by decide +kernel)
    | 6, _ => exact aW_t 254 (by decide +kernel) (by decide +kernel)
  intro w hw
  obtain ⟨k, hk, rfl⟩ := List.mem_map.mp hw
  exact h k (List.mem_range.mp hk)
theorem inWX11 : ∀ w ∈ wsX110, w ∈ aWS := by
  have h : ∀ k, k < 8 → u_lay RX11 TX11 k ∈ aWS := by
    intro k hk
    match k, hk with
    | 0, _ => exact aW_t 58 (by decide +kernel) (by decide +kernel)
    | 1, _ => exact aW_t 60 (by decide +kernel) (by decide +kernel)
    | 2, _ => exact aW_t 62 (by decide +kernel) (by decide +kernel)
    | 3, _ => exact aW_t 64 (by decide +kernel) (by decide +kernel)
    | 4, _ => exact aW_t 66 (by decide +kernel) (by decide +kernel)
    | 5, _ => exact aW_t 68 (by decide +kernel) (by decide +kernel)
    | 6, _ => exact aW_t 70 (by decide +kernel) (by decide +kernel)
    | 7, _ => exact aW_t 72 (by decide +kernel) (by decide +kernel)
  intro w hw
  obtain ⟨k, hk, rfl⟩ := List.mem_map.mp hw
  exact h k (List.mem_range.mp hk)
theorem inWX12 : ∀ w ∈ wsX120, w ∈ aWS := by
  have h : ∀ k, k < 12 → u_lay RX12 TX12 k ∈ aWS := by
    intro k hk
    match k, hk with
    | 0, _ => exact aW_t 366 (by decide +kernel) (by decide +kernel)
    | 1, _ => exact aW_t 368 (by decide +kernel) (by decide +kernel)
    | 2, _ => exact aW_t 370 (by decide +kernel) (by decide +kernel)
    | 3, _ => exact aW_t 372 (by decide +kernel) (by decide +kernel)
    | 4, _ => exact aW_t 374 (by decide +kernel) (by decide +kernel)
    | 5, _ => exact aW_t 376 (by decide +kernel) (by decide +kernel)
    | 6, _ => exact aW_t 378 (by decide +kernel) (by decide +kernel)
    | 7, _ => exact aW_t 380 (by decide +kernel) (by decide +kernel)
    | 8, _ => exact aW_t 382 (by decide +kernel) (by decide +kernel)
    | 9, _ => exact aW_t 384 (by decide +kernel) (by decide +kernel)
    | 10, _ => exact aW_t 386 (by decide +kernel) (by decide +kernel)
    | 11, _ => exact aW_t 388 (by decide +kernel) (by decide +kernel)
  intro w hw
  obtain ⟨k, hk, rfl⟩ := List.mem_map.mp hw
  exact h k (List.mem_range.mp hk)
theorem inWX13 : ∀ w ∈ wsX130, w ∈ aWS := by
  have h : ∀ k, k < 63 → u_lay RX13 TX13 k ∈ aWS := by
    intro k hk
    match k, hk with
    | 0, _ => exact aW_t 1319 (by decide +kernel) (by decide +kernel)
    | 1, _ => exact aW_t 1321 (by decide +kernel) (by decide +kernel)
    | 2, _ => exact aW_t 1323 (by decide +kernel) (by decide +kernel)
    | 3, _ => exact aW_t 1325 (by decide +kernel) (by decide +kernel)
    | 4, _ => exact aW_t 1327 (by decide +kernel) (by decide +kernel)
    | 5, _ => exact aW_t 1329 (by decide +kernel) (by decide +kernel)
    | 6, _ => exact aW_t 1331 (by decide +kernel) (by decide +kernel)
    | 7, _ => exact aW_t 1333 (by decide +kernel) (by decide +kernel)
    | 8, _ => exact aW_t 1335 (by decide +kernel) (by decide +kernel)
    | 9, _ => exact aW_t 1337 (by decide +kernel) (by decide +kernel)
    | 10, _ => exact aW_t 1339 (by decide +kernel) (by decide +kernel)
    | 11, _ => exact aW_t 1341 (by decide +kernel) (by decide +kernel)
    | 12, _ => exact aW_t 1343 (by decide +kernel) (by decide +kernel)
    | 13, _ => exact aW_t 1345 (by decide +kernel) (by decide +kernel)
    | 14, _ => exact aW_t 1347 (by decide +kernel) (by decide +kernel)
    | 15, _ => exact aW_t 1349 (by decide +kernel) (by decide +kernel)
    | 16, _ => exact aW_t 1351 (by decide +kernel) (by decide +kernel)
    | 17, _ => exact aW_t 1353 (by decide +kernel) (by decide +kernel)
    | 18, _ => exact aW_t 1355 (by decide +kernel) (by decide +kernel)
    | 19, _ => exact aW_t 1357 (by decide +kernel) (by decide +kernel)
    | 20, _ => exact aW_t 1359 (by decide +kernel) (by decide +kernel)
    | 21, _ => exact aW_t 1361 (by decide +kernel) (by decide +kernel)
    | 22, _ => exact aW_t 1363 (by decide +kernel) (by decide +kernel)
    | 23, _ => exact aW_t 1365 (by decide +kernel) (by decide +kernel)
    | 24, _ => exact aW_t 1367 (by decide +kernel) (by decide +kernel)
    | 25, _ => exact aW_t 1369 (by decide +kernel) (by decide +kernel)
    | 26, _ => exact aW_t 1371 (by decide +kernel) (by decide +kernel)
    | 27, _ => exact aW_t 1373 (by decide +kernel) (by decide +kernel)
    | 28, _ => exact aW_t 1375 (by decide +kernel) (by decide +kernel)
    | 29, _ => exact aW_t 1377 (by decide +kernel) (by decide +kernel)
    | 30, _ => exact aW_t 1379 (by decide +kernel) (by decide +kernel)
    | 31, _ => exact aW_t 1381 (by decide +kernel) (by decide +kernel)
    | 32, _ => exact aW_t 1383 (by decide +kernel) (by decide +kernel)
    | 33, _ => exact aW_t 1385 (by decide +kernel) (by decide +kernel)
    | 34, _ => exact aW_t 1387 (by decide +kernel) (by decide +kernel)
    | 35, _ => exact aW_t 1389 (by decide +kernel) (by decide +kernel)
    | 36, _ => exact aW_t 1391 (by decide +kernel) (by decide +kernel)
    | 37, _ => exact aW_t 1393 (by decide +kernel) (by decide +kernel)
    | 38, _ => exact aW_t 1395 (by decide +kernel) (by decide +kernel)
    | 39, _ => exact aW_t 1397 (by decide +kernel) (by decide +kernel)
    | 40, _ => exact aW_t 1399 (by decide +kernel) (by decide +kernel)
    | 41, _ => exact aW_t 1401 (by decide +kernel) (by decide +kernel)
    | 42, _ => exact aW_t 1403 (by decide +kernel) (by decide +kernel)
    | 43, _ => exact aW_t 1405 (by decide +kernel) (by decide +kernel)
    | 44, _ => exact aW_t 1407 (by decide +kernel) (by decide +kernel)
    | 45, _ => exact aW_t 1409 (by decide +kernel) (by decide +kernel)
    | 46, _ => exact aW_t 1411 (by decide +kernel) (by decide +kernel)
    | 47, _ => exact aW_t 1413 (by decide +kernel) (by decide +kernel)
    | 48, _ => exact aW_t 1415 (by decide +kernel) (by decide +kernel)
    | 49, _ => exact aW_t 1417 (by decide +kernel) (by decide +kernel)
    | 50, _ => exact aW_t 1419 (by decide +kernel) (by decide +kernel)
    | 51, _ => exact aW_t 1421 (by decide +kernel) (by decide +kernel)
    | 52, _ => exact aW_t 1423 (by decide +kernel) (by decide +kernel)
    | 53, _ => exact aW_t 1425 (by decide +kernel) (by decide +kernel)
    | 54, _ => exact aW_t 1427 (by decide +kernel) (by decide +kernel)
    | 55, _ => exact aW_t 1429 (by decide +kernel) (by decide +kernel)
    | 56, _ => exact aW_t 1431 (by decide +kernel) (by decide +kernel)
    | 57, _ => exact aW_t 1433 (by decide +kernel) (by decide +kernel)
    | 58, _ => exact aW_t 1435 (by decide +kernel) (by decide +kernel)
    | 59, _ => exact aW_t 1437 (by decide +kernel) (by decide +kernel)
    | 60, _ => exact aW_t 1439 (by decide +kernel) (by decide +kernel)
    | 61, _ => exact aW_t 1441 (by decide +kernel) (by decide +kernel)
    | 62, _ => exact aW_t 1443 (by decide +kernel) (by decide +kernel)
    | k + 63, hk => exact absurd hk (by omega)
  intro w hw
  obtain ⟨k, hk, rfl⟩ := List.mem_map.mp hw
  exact h k (List.mem_range.mp hk)
end
section
/-! the cells that the two constructors make, by their numbers in the order of their making: the system's from 0 on, the reference's from 1000 on; printed by a program out of the constructors' bytecode -/
def akd (i : Nat) : Nat := cond (Nat.ble i 96) (cond (Nat.ble i 47) (cond (Nat.ble i 23) (cond (Nat.ble i 11) (cond (Nat.ble i 5) (cond (Nat.ble i 2) (cond (Nat.ble i 0) (10) (cond (Nat.ble i 1) (9) (22))) (cond (Nat.ble i 3) (5) (cond (Nat.ble i 4) (20) (1)))) (cond (Nat.ble i 8) (cond (Nat.ble i 6) (6) (cond (Nat.ble i 7) (20) (21))) (cond (Nat.ble i 9) (20) (cond (Nat.ble i 10) (20) (20))))) (cond (Nat.ble i 17) (cond (Nat.ble i 14) (cond (Nat.ble i 12) (20) (cond (Nat.ble i 13) (21) (20))) (cond (Nat.ble i 15) (20) (cond (Nat.ble i 16) (20) (0)))) (cond (Nat.ble i 20) (cond (Nat.ble i 18) (20) (cond (Nat.ble i 19) (20) (0))) (cond (Nat.ble i 21) (20) (cond (Nat.ble i 22) (20) (6)))))) (cond (Nat.ble i 35) (cond (Nat.ble i 29) (cond (Nat.ble i 26) (cond (Nat.ble i 24) (20) (cond (Nat.ble i 25) (21) (20))) (cond (Nat.ble i 27) (20) (cond (Nat.ble i 28) (20) (20)))) (cond (Nat.ble i 32) (cond (Nat.ble i 30) (21) (cond (Nat.ble i 31) (20) (20))) (cond (Nat.ble i 33) (20) (cond (Nat.ble i 34) (0) (20))))) (cond (Nat.ble i 41) (cond (Nat.ble i 38) (cond (Nat.ble i 36) (20) (cond (Nat.ble i 37) (0) (20))) (cond (Nat.ble i 39) (20) (cond (Nat.ble i 40) (4) (8)))) (cond (Nat.ble i 44) (cond (Nat.ble i 42) (20) (cond (Nat.ble i 43) (20) (20))) (cond (Nat.ble i 45) (20) (cond (Nat.ble i 46) (24) (2))))))) (cond (Nat.ble i 71) (cond (Nat.ble i 59) (cond (Nat.ble i 53) (cond (Nat.ble i 50) (cond (Nat.ble i 48) (25) (cond (Nat.ble i 49) (8) (20))) (cond (Nat.ble i 51) (20) (cond (Nat.ble i 52) (20) (8)))) (cond (Nat.ble i 56) (cond (Nat.ble i 54) (20) (cond (Nat.ble i 55) (20) (20))) (cond (Nat.ble i 57) (8) (cond (Nat.ble i 58) (20) (20))))) (cond (Nat.ble i 65) (cond (Nat.ble i 62) (cond (Nat.ble i 60) (20) (cond (Nat.ble i 61) (8) (20))) (cond (Nat.ble i 63) (20) (cond (Nat.ble i 64) (20) (8)))) (cond (Nat.ble i 68) (cond (Nat.ble i 66) (20) (cond (Nat.ble i 67) (20) (20))) (cond (Nat.ble i 69) (8) (cond (Nat.ble i 70) (20) (20)))))) (cond (Nat.ble i 83) (cond (Nat.ble i 77) (cond (Nat.ble i 74) (cond (Nat.ble i 72) (20) (cond (Nat.ble i 73) (8) (20))) (cond (Nat.ble i 75) (20) (cond (Nat.ble i 76) (20) (8)))) (cond (Nat.ble i 80) (cond (Nat.ble i 78) (20) (cond (Nat.ble i 79) (20) (20))) (cond (Nat.ble i 81) (8) (cond (Nat.ble i 82) (20) (20))))) (cond (Nat.ble i 89) (cond (Nat.ble i 86) (cond (Nat.ble i 84) (20) (cond (Nat.ble i 85) (8) (20))) (cond (Nat.ble i 87) (20) (cond (Nat.ble i 88) (20) (8)))) (cond (Nat.ble i 92) (cond (Nat.ble i 90) (20) (cond (Nat.ble i 91) (20) (20))) (cond (Nat.ble i 94) (cond (Nat.ble i 93) (8) (20)) (cond (Nat.ble i 95) (20) (20)))))))) (cond (Nat.ble i 145) (cond (Nat.ble i 120) (cond (Nat.ble i 108) (cond (Nat.ble i 102) (cond (Nat.ble i 99) (cond (Nat.ble i 97) (8) (cond (Nat.ble i 98) (20) (20))) (cond (Nat.ble i 100) (20) (cond (Nat.ble i 101) (8) (20)))) (cond (Nat.ble i 105) (cond (Nat.ble i 103) (20) (cond (Nat.ble i 104) (20) (8))) (cond (Nat.ble i 106) (20) (cond (Nat.ble i 107) (20) (20))))) (cond (Nat.ble i 114) (cond (Nat.ble i 111) (cond (Nat.ble i 109) (8) (cond (Nat.ble i 110) (20) (20))) (cond (Nat.ble i 112) (20) (cond (Nat.ble i 113) (8) (20)))) (cond (Nat.ble i 117) (cond (Nat.ble i 115) (20) (cond (Nat.ble i 116) (20) (3))) (cond (Nat.ble i 118) (20) (cond (Nat.ble i 119) (20) (20)))))) (cond (Nat.ble i 132) (cond (Nat.ble i 126) (cond (Nat.ble i 123) (cond (Nat.ble i 121) (20) (cond (Nat.ble i 122) (21) (21))) (cond (Nat.ble i 124) (7) (cond (Nat.ble i 125) (20) (20)))) (cond (Nat.ble i 129) (cond (Nat.ble i 127) (20) (cond (Nat.ble i 128) (4) (8))) (cond (Nat.ble i 130) (20) (cond (Nat.ble i 131) (20) (20))))) (cond (Nat.ble i 138) (cond (Nat.ble i 135) (cond (Nat.ble i 133) (20) (cond (Nat.ble i 134) (4) (8))) (cond (Nat.ble i 136) (20) (cond (Nat.ble i 137) (20) (20)))) (cond (Nat.ble i 141) (cond (Nat.ble i 139) (20) (cond (Nat.ble i 140) (4) (8))) (cond (Nat.ble i 143) (cond (Nat.ble i 142) (20) (20)) (cond (Nat.ble i 144) (20) (20))))))) (cond (Nat.ble i 1016) (cond (Nat.ble i 1004) (cond (Nat.ble i 151) (cond (Nat.ble i 148) (cond (Nat.ble i 146) (4) (cond (Nat.ble i 147) (8) (20))) (cond (Nat.ble i 149) (20) (cond (Nat.ble i 150) (20) (20)))) (cond (Nat.ble i 1001) (cond (Nat.ble i 999) (99) (cond (Nat.ble i 1000) (11) (30))) (cond (Nat.ble i 1002) (30) (cond (Nat.ble i 1003) (31) (31))))) (cond (Nat.ble i 1010) (cond (Nat.ble i 1007) (cond (Nat.ble i 1005) (30) (cond (Nat.ble i 1006) (30) (30))) (cond (Nat.ble i 1008) (30) (cond (Nat.ble i 1009) (30) (30)))) (cond (Nat.ble i 1013) (cond (Nat.ble i 1011) (30) (cond (Nat.ble i 1012) (30) (30))) (cond (Nat.ble i 1014) (30) (cond (Nat.ble i 1015) (30) (33)))))) (cond (Nat.ble i 1028) (cond (Nat.ble i 1022) (cond (Nat.ble i 1019) (cond (Nat.ble i 1017) (30) (cond (Nat.ble i 1018) (30) (30))) (cond (Nat.ble i 1020) (30) (cond (Nat.ble i 1021) (30) (30)))) (cond (Nat.ble i 1025) (cond (Nat.ble i 1023) (30) (cond (Nat.ble i 1024) (30) (30))) (cond (Nat.ble i 1026) (30) (cond (Nat.ble i 1027) (30) (30))))) (cond (Nat.ble i 1034) (cond (Nat.ble i 1031) (cond (Nat.ble i 1029) (30) (cond (Nat.ble i 1030) (30) (30))) (cond (Nat.ble i 1032) (30) (cond (Nat.ble i 1033) (30) (30)))) (cond (Nat.ble i 1037) (cond (Nat.ble i 1035) (30) (cond (Nat.ble i 1036) (33) (30))) (cond (Nat.ble i 1039) (cond (Nat.ble i 1038) (30) (30)) (cond (Nat.ble i 1040) (30) (99))))))))
def aln (i : Nat) : Nat := cond (Nat.ble i 95) (cond (Nat.ble i 47) (cond (Nat.ble i 23) (cond (Nat.ble i 11) (cond (Nat.ble i 5) (cond (Nat.ble i 2) (cond (Nat.ble i 0) (0) (cond (Nat.ble i 1) (0) (1000))) (cond (Nat.ble i 3) (0) (cond (Nat.ble i 4) (40) (0)))) (cond (Nat.ble i 8) (cond (Nat.ble i 6) (0) (cond (Nat.ble i 7) (5) (5))) (cond (Nat.ble i 9) (12) (cond (Nat.ble i 10) (12) (12))))) (cond (Nat.ble i 17) (cond (Nat.ble i 14) (cond (Nat.ble i 12) (12) (cond (Nat.ble i 13) (12) (60))) (cond (Nat.ble i 15) (12) (cond (Nat.ble i 16) (1000) (0)))) (cond (Nat.ble i 20) (cond (Nat.ble i 18) (5) (cond (Nat.ble i 19) (32) (0))) (cond (Nat.ble i 21) (5) (cond (Nat.ble i 22) (32) (0)))))) (cond (Nat.ble i 35) (cond (Nat.ble i 29) (cond (Nat.ble i 26) (cond (Nat.ble i 24) (5) (cond (Nat.ble i 25) (5) (12))) (cond (Nat.ble i 27) (12) (cond (Nat.ble i 28) (12) (12)))) (cond (Nat.ble i 32) (cond (Nat.ble i 30) (12) (cond (Nat.ble i 31) (60) (12))) (cond (Nat.ble i 33) (1000) (cond (Nat.ble i 34) (0) (5))))) (cond (Nat.ble i 41) (cond (Nat.ble i 38) (cond (Nat.ble i 36) (32) (cond (Nat.ble i 37) (0) (5))) (cond (Nat.ble i 39) (32) (cond (Nat.ble i 40) (0) (0)))) (cond (Nat.ble i 44) (cond (Nat.ble i 42) (12) (cond (Nat.ble i 43) (4) (40))) (cond (Nat.ble i 45) (40) (cond (Nat.ble i 46) (4) (0))))))) (cond (Nat.ble i 71) (cond (Nat.ble i 59) (cond (Nat.ble i 53) (cond (Nat.ble i 50) (cond (Nat.ble i 48) (16) (cond (Nat.ble i 49) (0) (12))) (cond (Nat.ble i 51) (4) (cond (Nat.ble i 52) (40) (0)))) (cond (Nat.ble i 56) (cond (Nat.ble i 54) (12) (cond (Nat.ble i 55) (4) (40))) (cond (Nat.ble i 57) (0) (cond (Nat.ble i 58) (12) (4))))) (cond (Nat.ble i 65) (cond (Nat.ble i 62) (cond (Nat.ble i 60) (40) (cond (Nat.ble i 61) (0) (12))) (cond (Nat.ble i 63) (4) (cond (Nat.ble i 64) (40) (0)))) (cond (Nat.ble i 68) (cond (Nat.ble i 66) (12) (cond (Nat.ble i 67) (4) (40))) (cond (Nat.ble i 69) (0) (cond (Nat.ble i 70) (12) (4)))))) (cond (Nat.ble i 83) (cond (Nat.ble i 77) (cond (Nat.ble i 74) (cond (Nat.ble i 72) (40) (cond (Nat.ble i 73) (0) (12))) (cond (Nat.ble i 75) (4) (cond (Nat.ble i 76) (40) (0)))) (cond (Nat.ble i 80) (cond (Nat.ble i 78) (12) (cond (Nat.ble i 79) (4) (40))) (cond (Nat.ble i 81) (0) (cond (Nat.ble i 82) (12) (4))))) (cond (Nat.ble i 89) (cond (Nat.ble i 86) (cond (Nat.ble i 84) (40) (cond (Nat.ble i 85) (0) (12))) (cond (Nat.ble i 87) (4) (cond (Nat.ble i 88) (40) (0)))) (cond (Nat.ble i 92) (cond (Nat.ble i 90) (12) (cond (Nat.ble i 91) (4) (40))) (cond (Nat.ble i 93) (0) (cond (Nat.ble i 94) (12) (4)))))))) (cond (Nat.ble i 143) (cond (Nat.ble i 119) (cond (Nat.ble i 107) (cond (Nat.ble i 101) (cond (Nat.ble i 98) (cond (Nat.ble i 96) (40) (cond (Nat.ble i 97) (0) (12))) (cond (Nat.ble i 99) (4) (cond (Nat.ble i 100) (40) (0)))) (cond (Nat.ble i 104) (cond (Nat.ble i 102) (12) (cond (Nat.ble i 103) (4) (40))) (cond (Nat.ble i 105) (0) (cond (Nat.ble i 106) (12) (4))))) (cond (Nat.ble i 113) (cond (Nat.ble i 110) (cond (Nat.ble i 108) (40) (cond (Nat.ble i 109) (0) (12))) (cond (Nat.ble i 111) (4) (cond (Nat.ble i 112) (40) (0)))) (cond (Nat.ble i 116) (cond (Nat.ble i 114) (12) (cond (Nat.ble i 115) (4) (40))) (cond (Nat.ble i 117) (0) (cond (Nat.ble i 118) (156) (13)))))) (cond (Nat.ble i 131) (cond (Nat.ble i 125) (cond (Nat.ble i 122) (cond (Nat.ble i 120) (4) (cond (Nat.ble i 121) (324) (81))) (cond (Nat.ble i 123) (81) (cond (Nat.ble i 124) (0) (12)))) (cond (Nat.ble i 128) (cond (Nat.ble i 126) (5) (cond (Nat.ble i 127) (10) (0))) (cond (Nat.ble i 129) (0) (cond (Nat.ble i 130) (12) (4))))) (cond (Nat.ble i 137) (cond (Nat.ble i 134) (cond (Nat.ble i 132) (40) (cond (Nat.ble i 133) (40) (0))) (cond (Nat.ble i 135) (0) (cond (Nat.ble i 136) (12) (4)))) (cond (Nat.ble i 140) (cond (Nat.ble i 138) (40) (cond (Nat.ble i 139) (40) (0))) (cond (Nat.ble i 141) (0) (cond (Nat.ble i 142) (12) (4))))))) (cond (Nat.ble i 1015) (cond (Nat.ble i 1003) (cond (Nat.ble i 149) (cond (Nat.ble i 146) (cond (Nat.ble i 144) (40) (cond (Nat.ble i 145) (40) (0))) (cond (Nat.ble i 147) (0) (cond (Nat.ble i 148) (12) (4)))) (cond (Nat.ble i 1000) (cond (Nat.ble i 150) (40) (cond (Nat.ble i 151) (40) (0))) (cond (Nat.ble i 1001) (1000) (cond (Nat.ble i 1002) (8) (10))))) (cond (Nat.ble i 1009) (cond (Nat.ble i 1006) (cond (Nat.ble i 1004) (24) (cond (Nat.ble i 1005) (10) (24))) (cond (Nat.ble i 1007) (24) (cond (Nat.ble i 1008) (24) (24)))) (cond (Nat.ble i 1012) (cond (Nat.ble i 1010) (120) (cond (Nat.ble i 1011) (24) (4))) (cond (Nat.ble i 1013) (4) (cond (Nat.ble i 1014) (2000) (7)))))) (cond (Nat.ble i 1027) (cond (Nat.ble i 1021) (cond (Nat.ble i 1018) (cond (Nat.ble i 1016) (7) (cond (Nat.ble i 1017) (7) (7))) (cond (Nat.ble i 1019) (7) (cond (Nat.ble i 1020) (7) (7)))) (cond (Nat.ble i 1024) (cond (Nat.ble i 1022) (7) (cond (Nat.ble i 1023) (7) (7))) (cond (Nat.ble i 1025) (7) (cond (Nat.ble i 1026) (20) (6))))) (cond (Nat.ble i 1033) (cond (Nat.ble i 1030) (cond (Nat.ble i 1028) (240) (cond (Nat.ble i 1029) (240) (5))) (cond (Nat.ble i 1031) (40) (cond (Nat.ble i 1032) (60) (60)))) (cond (Nat.ble i 1036) (cond (Nat.ble i 1034) (240) (cond (Nat.ble i 1035) (960) (4))) (cond (Nat.ble i 1038) (cond (Nat.ble i 1037) (4) (4)) (cond (Nat.ble i 1039) (12) (4))))))))
def artL (i : Nat) : List Nat := cond (Nat.ble i 95) (cond (Nat.ble i 47) (cond (Nat.ble i 23) (cond (Nat.ble i 11) (cond (Nat.ble i 5) (cond (Nat.ble i 2) (cond (Nat.ble i 0) ([1, 3, 0, 0, 40, 46, 47, 113, 117, 124, 126, 127]) (cond (Nat.ble i 1) ([2, 0, 0, 0, 0, 0, 0, 0]) ([]))) (cond (Nat.ble i 3) ([1, 5, 4, 0]) (cond (Nat.ble i 4) ([]) ([1])))) (cond (Nat.ble i 8) (cond (Nat.ble i 6) ([0, 7, 8, 0, 9, 10, 11, 12, 13, 14, 15, 0, 0, 0, 17, 20]) (cond (Nat.ble i 7) ([]) ([]))) (cond (Nat.ble i 9) ([]) (cond (Nat.ble i 10) ([]) ([]))))) (cond (Nat.ble i 17) (cond (Nat.ble i 14) (cond (Nat.ble i 12) ([]) (cond (Nat.ble i 13) ([]) ([]))) (cond (Nat.ble i 15) ([]) (cond (Nat.ble i 16) ([]) ([0, 18, 19, 16, 0, 0])))) (cond (Nat.ble i 20) (cond (Nat.ble i 18) ([]) (cond (Nat.ble i 19) ([]) ([0, 21, 22, 16, 0, 0]))) (cond (Nat.ble i 21) ([]) (cond (Nat.ble i 22) ([]) ([0, 24, 25, 0, 26, 27, 28, 29, 30, 31, 32, 0, 0, 0, 34, 37])))))) (cond (Nat.ble i 35) (cond (Nat.ble i 29) (cond (Nat.ble i 26) (cond (Nat.ble i 24) ([]) (cond (Nat.ble i 25) ([]) ([]))) (cond (Nat.ble i 27) ([]) (cond (Nat.ble i 28) ([]) ([])))) (cond (Nat.ble i 32) (cond (Nat.ble i 30) ([]) (cond (Nat.ble i 31) ([]) ([]))) (cond (Nat.ble i 33) ([]) (cond (Nat.ble i 34) ([0, 35, 36, 33, 0, 0]) ([]))))) (cond (Nat.ble i 41) (cond (Nat.ble i 38) (cond (Nat.ble i 36) ([]) (cond (Nat.ble i 37) ([0, 38, 39, 33, 0, 0]) ([]))) (cond (Nat.ble i 39) ([]) (cond (Nat.ble i 40) ([41, 45, 0, 0, 0, 0]) ([42, 43, 44, 0, 0, 0, 0])))) (cond (Nat.ble i 44) (cond (Nat.ble i 42) ([]) (cond (Nat.ble i 43) ([]) ([]))) (cond (Nat.ble i 45) ([]) (cond (Nat.ble i 46) ([]) ([48, 0, 0]))))))) (cond (Nat.ble i 71) (cond (Nat.ble i 59) (cond (Nat.ble i 53) (cond (Nat.ble i 50) (cond (Nat.ble i 48) ([]) (cond (Nat.ble i 49) ([50, 51, 52, 0, 0, 0, 0]) ([]))) (cond (Nat.ble i 51) ([]) (cond (Nat.ble i 52) ([]) ([54, 55, 56, 0, 0, 0, 0])))) (cond (Nat.ble i 56) (cond (Nat.ble i 54) ([]) (cond (Nat.ble i 55) ([]) ([]))) (cond (Nat.ble i 57) ([58, 59, 60, 0, 0, 0, 0]) (cond (Nat.ble i 58) ([]) ([]))))) (cond (Nat.ble i 65) (cond (Nat.ble i 62) (cond (Nat.ble i 60) ([]) (cond (Nat.ble i 61) ([62, 63, 64, 0, 0, 0, 0]) ([]))) (cond (Nat.ble i 63) ([]) (cond (Nat.ble i 64) ([]) ([66, 67, 68, 0, 0, 0, 0])))) (cond (Nat.ble i 68) (cond (Nat.ble i 66) ([]) (cond (Nat.ble i 67) ([]) ([]))) (cond (Nat.ble i 69) ([70, 71, 72, 0, 0, 0, 0]) (cond (Nat.ble i 70) ([]) ([])))))) (cond (Nat.ble i 83) (cond (Nat.ble i 77) (cond (Nat.ble i 74) (cond (Nat.ble i 72) ([]) (cond (Nat.ble i 73) ([74, 75, 76, 0, 0, 0, 0]) ([]))) (cond (Nat.ble i 75) ([]) (cond (Nat.ble i 76) ([]) ([78, 79, 80, 0, 0, 0, 0])))) (cond (Nat.ble i 80) (cond (Nat.ble i 78) ([]) (cond (Nat.ble i 79) ([]) ([]))) (cond (Nat.ble i 81) ([82, 83, 84, 0, 0, 0, 0]) (cond (Nat.ble i 82) ([]) ([]))))) (cond (Nat.ble i 89) (cond (Nat.ble i 86) (cond (Nat.ble i 84) ([]) (cond (Nat.ble i 85) ([86, 87, 88, 0, 0, 0, 0]) ([]))) (cond (Nat.ble i 87) ([]) (cond (Nat.ble i 88) ([]) ([90, 91, 92, 0, 0, 0, 0])))) (cond (Nat.ble i 92) (cond (Nat.ble i 90) ([]) (cond (Nat.ble i 91) ([]) ([]))) (cond (Nat.ble i 93) ([94, 95, 96, 0, 0, 0, 0]) (cond (Nat.ble i 94) ([]) ([])))))))) (cond (Nat.ble i 143) (cond (Nat.ble i 119) (cond (Nat.ble i 107) (cond (Nat.ble i 101) (cond (Nat.ble i 98) (cond (Nat.ble i 96) ([]) (cond (Nat.ble i 97) ([98, 99, 100, 0, 0, 0, 0]) ([]))) (cond (Nat.ble i 99) ([]) (cond (Nat.ble i 100) ([]) ([102, 103, 104, 0, 0, 0, 0])))) (cond (Nat.ble i 104) (cond (Nat.ble i 102) ([]) (cond (Nat.ble i 103) ([]) ([]))) (cond (Nat.ble i 105) ([106, 107, 108, 0, 0, 0, 0]) (cond (Nat.ble i 106) ([]) ([]))))) (cond (Nat.ble i 113) (cond (Nat.ble i 110) (cond (Nat.ble i 108) ([]) (cond (Nat.ble i 109) ([110, 111, 112, 0, 0, 0, 0]) ([]))) (cond (Nat.ble i 111) ([]) (cond (Nat.ble i 112) ([]) ([114, 115, 116, 0, 0, 0, 0])))) (cond (Nat.ble i 116) (cond (Nat.ble i 114) ([]) (cond (Nat.ble i 115) ([]) ([]))) (cond (Nat.ble i 117) ([118, 119, 120, 121, 122, 123, 0]) (cond (Nat.ble i 118) ([]) ([])))))) (cond (Nat.ble i 131) (cond (Nat.ble i 125) (cond (Nat.ble i 122) (cond (Nat.ble i 120) ([]) (cond (Nat.ble i 121) ([]) ([]))) (cond (Nat.ble i 123) ([]) (cond (Nat.ble i 124) ([125]) ([])))) (cond (Nat.ble i 128) (cond (Nat.ble i 126) ([]) (cond (Nat.ble i 127) ([]) ([129, 133, 0, 0, 0, 0]))) (cond (Nat.ble i 129) ([130, 131, 132, 0, 0, 0, 0]) (cond (Nat.ble i 130) ([]) ([]))))) (cond (Nat.ble i 137) (cond (Nat.ble i 134) (cond (Nat.ble i 132) ([]) (cond (Nat.ble i 133) ([]) ([135, 139, 0, 0, 0, 0]))) (cond (Nat.ble i 135) ([136, 137, 138, 0, 0, 0, 0]) (cond (Nat.ble i 136) ([]) ([])))) (cond (Nat.ble i 140) (cond (Nat.ble i 138) ([]) (cond (Nat.ble i 139) ([]) ([141, 145, 0, 0, 0, 0]))) (cond (Nat.ble i 141) ([142, 143, 144, 0, 0, 0, 0]) (cond (Nat.ble i 142) ([]) ([]))))))) (cond (Nat.ble i 1015) (cond (Nat.ble i 1003) (cond (Nat.ble i 149) (cond (Nat.ble i 146) (cond (Nat.ble i 144) ([]) (cond (Nat.ble i 145) ([]) ([147, 151, 0, 0, 0, 0]))) (cond (Nat.ble i 147) ([148, 149, 150, 0, 0, 0, 0]) (cond (Nat.ble i 148) ([]) ([])))) (cond (Nat.ble i 1000) (cond (Nat.ble i 150) ([]) (cond (Nat.ble i 151) ([]) ([0, 0, 1001, 0, 0, 0, 0, 0, 0, 0, 1002, 1003, 1004, 1005, 1006, 1007, 1008, 1009, 1010, 1011, 1012, 1013, 1014, 0, 0, 0, 1015, 1016, 1017, 1018, 1019, 1020, 1021, 1022, 1023, 1024, 1025, 1026, 0, 0, 1027, 1028, 1029, 1030, 1031, 1032, 1033, 1034, 1035, 1036, 0, 0, 0, 0, 1037, 1038, 0, 0, 0, 0, 1039, 1040, 0]))) (cond (Nat.ble i 1001) ([]) (cond (Nat.ble i 1002) ([]) ([]))))) (cond (Nat.ble i 1009) (cond (Nat.ble i 1006) (cond (Nat.ble i 1004) ([]) (cond (Nat.ble i 1005) ([]) ([]))) (cond (Nat.ble i 1007) ([]) (cond (Nat.ble i 1008) ([]) ([])))) (cond (Nat.ble i 1012) (cond (Nat.ble i 1010) ([]) (cond (Nat.ble i 1011) ([]) ([]))) (cond (Nat.ble i 1013) ([]) (cond (Nat.ble i 1014) ([]) ([])))))) (cond (Nat.ble i 1027) (cond (Nat.ble i 1021) (cond (Nat.ble i 1018) (cond (Nat.ble i 1016) ([]) (cond (Nat.ble i 1017) ([]) ([]))) (cond (Nat.ble i 1019) ([]) (cond (Nat.ble i 1020) ([]) ([])))) (cond (Nat.ble i 1024) (cond (Nat.ble i 1022) ([]) (cond (Nat.ble i 1023) ([]) ([]))) (cond (Nat.ble i 1025) ([]) (cond (Nat.ble i 1026) ([]) ([]))))) (cond (Nat.ble i 1033) (cond (Nat.ble i 1030) (cond (Nat.ble i 1028) ([]) (cond (Nat.ble i 1029) ([]) ([]))) (cond (Nat.ble i 1031) ([]) (cond (Nat.ble i 1032) ([]) ([])))) (cond (Nat.ble i 1036) (cond (Nat.ble i 1034) ([]) (cond (Nat.ble i 1035) ([]) ([]))) (cond (Nat.ble i 1038) (cond (Nat.ble i 1037) ([]) ([])) (cond (Nat.ble i 1039) ([]) ([]))))))))
def art (i k : Nat) : Nat := (artL i).getD k 0
def araL (i : Nat) : List Nat := cond (Nat.ble i 46) ([128, 134, 140, 146]) ([49, 53, 57, 61, 65, 69, 73, 77, 81, 85, 89, 93, 97, 101, 105, 109])
def ara (i k : Nat) : Nat := (araL i).getD k 0
/-- the kinds of the fields of a class: 0 int, 1 boolean, 2 long, 3 a reference that stays, 4 one that changes -/
def aft (c : Nat) : List Nat := cond (Nat.ble c 5) (cond (Nat.ble c 2) (cond (Nat.ble c 0) ([1, 3, 3, 3, 0, 0]) (cond (Nat.ble c 1) ([3]) ([3, 0, 0]))) (cond (Nat.ble c 3) ([3, 3, 3, 3, 3, 3, 0]) (cond (Nat.ble c 4) ([3, 3, 0, 0, 0, 1]) ([3, 3, 3, 0])))) (cond (Nat.ble c 8) (cond (Nat.ble c 6) ([0, 3, 3, 0, 3, 3, 3, 3, 3, 3, 3, 0, 0, 1, 3, 3]) (cond (Nat.ble c 7) ([3]) ([3, 3, 3, 0, 0, 0, 0]))) (cond (Nat.ble c 9) ([3, 0, 0, 0, 4, 0, 2, 0]) (cond (Nat.ble c 10) ([3, 3, 4, 4, 3, 3, 3, 3, 3, 3, 3, 3]) ([0, 0, 3, 0, 0, 0, 0, 2, 0, 0, 3, 3, 3, 3, 3, 3, 3, 3, 3, 3, 3, 3, 3, 0, 0, 1, 3, 3, 3, 3, 3, 3, 3, 3, 3, 3, 3, 3, 0, 2, 3, 3, 3, 3, 3, 3, 3, 3, 3, 3, 0, 0, 2, 2, 3, 3, 2, 2, 0, 2, 3, 3, 2]))))
end
section
/-! A SMALL MACHINE. A state: ints, longs and changing references of fields, ints and longs of arrays, each by the cell's number and the place. What it does is said as a proposition that unfolds by itself, a row of instructions at a time; part 08 on shows that the true machine does the same. -/
abbrev aS : Type := (Nat → Nat → Int32) × (Nat → Nat → Int64) × (Nat → Nat → Nat) × (Nat → Nat → Int32) × (Nat → Nat → Int64)
def gi (S : aS) (i k : Nat) : Int32 := S.1 i k
def gl (S : aS) (i k : Nat) : Int64 := S.2.1 i k
def gr (S : aS) (i k : Nat) : Nat := S.2.2.1 i k
def ga (S : aS) (i k : Nat) : Int32 := S.2.2.2.1 i k
def gb (S : aS) (i k : Nat) : Int64 := S.2.2.2.2 i k
def si (S : aS) (i k : Nat) (v : Int32) : aS := (va_up S.1 i (va_up (S.1 i) k v), S.2)
def sl (S : aS) (i k : Nat) (v : Int64) : aS := (S.1, va_up S.2.1 i (va_up (S.2.1 i) k v), S.2.2)
def sr (S : aS) (i k : Nat) (v : Nat) : aS := (S.1, S.2.1, va_up S.2.2.1 i (va_up (S.2.2.1 i) k v), S.2.2.2)
def sa (S : aS) (i k : Nat) (v : Int32) : aS := (S.1, S.2.1, S.2.2.1, va_up S.2.2.2.1 i (upd (S.2.2.2.1 i) k v), S.2.2.2.2)
def sb (S : aS) (i k : Nat) (v : Int64) : aS := (S.1, S.2.1, S.2.2.1, S.2.2.2.1, va_up S.2.2.2.2 i (vp_updL (S.2.2.2.2 i) k v))
/-- an instruction: its place in the code, itself, its length, 0 or (one more than) its number where it is a cut, two numbers, an int, a long -/
abbrev aE : Type := Nat × ClassFile.Instr × Nat × Nat × Nat × Nat × Int32 × Int64
abbrev aLs : Type := List (Option Value)
abbrev aT : Type := Option (Option Prop × Option Prop × aLs × List Value × aS)
def aG (g : Option Prop) (X : Prop) : Prop := match g with
  | none => X
  | some P => P ∧ X
/-- the kind of a cell: nothing to show where it is known -/
def gK (a c : Nat) : Option Prop := cond (Nat.beq (akd a) c) none (some (akd a = c))
/-- one of the constants -/
def gC (x : Nat) : Option Prop := cond (Nat.ble 2000 x && Nat.ble x 2099) none (some (2000 ≤ x ∧ x ≤ 2099))
def aok (ls : aLs) (st : List Value) (S : aS) : aT := some (none, none, ls, st, S)
def agd (P : Prop) (ls : aLs) (st : List Value) (S : aS) : aT := some (none, some P, ls, st, S)
def pI (st : List Value) (k : Int32 → List Value → aT) : aT := match st with
  | .int x :: r => k x r
  | _ => none
def pII (st : List Value) (k : Int32 → Int32 → List Value → aT) : aT := match st with
  | .int y :: .int x :: r => k x y r
  | _ => none
def pL (st : List Value) (k : Int64 → List Value → aT) : aT := match st with
  | .long x :: r => k x r
  | _ => none
def pLL (st : List Value) (k : Int64 → Int64 → List Value → aT) : aT := match st with
  | .long y :: .long x :: r => k x y r
  | _ => none
def pLI (st : List Value) (k : Int64 → Int32 → List Value → aT) : aT := match st with
  | .int y :: .long x :: r => k x y r
  | _ => none
def pR (st : List Value) (k : Nat → List Value → aT) : aT := match st with
  | .ref a :: r => k a r
  | _ => none
def pRR (st : List Value) (k : Nat → Nat → List Value → aT) : aT := match st with
  | .ref b :: .ref a :: r => k a b r
  | _ => none
def pRI (st : List Value) (k : Nat → Int32 → List Value → aT) : aT := match st with
  | .int y :: .ref a :: r => k a y r
  | _ => none
def pRL (st : List Value) (k : Nat → Int64 → List Value → aT) : aT := match st with
  | .long y :: .ref a :: r => k a y r
  | _ => none
def pRII (st : List Value) (k : Nat → Int32 → Int32 → List Value → aT) : aT := match st with
  | .int y :: .int x :: .ref a :: r => k a x y r
  | _ => none
def pRIL (st : List Value) (k : Nat → Int32 → Int64 → List Value → aT) : aT := match st with
  | .long y :: .int x :: .ref a :: r => k a x y r
  | _ => none
def aldI (ls : aLs) (i : Nat) (k : Int32 → aT) : aT := match ls[i]? with
  | some (some (.int x)) => k x
  | _ => none
def aldL (ls : aLs) (i : Nat) (k : Int64 → aT) : aT := match ls[i]? with
  | some (some (.long x)) => k x
  | _ => none
def aldR (ls : aLs) (i : Nat) (k : Nat → aT) : aT := match ls[i]? with
  | some (some (.ref x)) => k x
  | _ => none
def acat2 (v : Value) : Bool := match v with
  | .long _ => true
  | .double _ => true
  | _ => false
/-- what is written at i takes away the long that began ahead of it -/
def akl (ls : aLs) (i : Nat) : aLs := match i with
  | 0 => ls
  | j + 1 => match ls[j]? with
    | some (some v) => cond (acat2 v) (ls.set j none) ls
    | _ => ls
def ast1 (ls : aLs) (i : Nat) (v : Value) : aLs := (akl ls i).set i (some v)
def ast2 (ls : aLs) (i : Nat) (v : Value) : aLs := ((akl ls i).set i (some v)).set (i + 1) none
/-- a store has a place -/
def aput (ls : aLs) (i : Nat) (k : aT) : aT := cond (Nat.blt i ls.length) k none
/-- what a field holds -/
def afg (S : aS) (a c k : Nat) (h : Value → aT) : aT := match (aft c)[k]? with
  | some 0 => h (.int (gi S a k))
  | some 1 => h (.int (gi S a k))
  | some 2 => h (.long (gl S a k))
  | some 3 => h (.ref (art a k))
  | some 4 => h (.ref (gr S a k))
  | _ => none
def afp (S : aS) (c k : Nat) (ls : aLs) (st : List Value) : aT := match (aft c)[k]? with
  | some 0 => pRI st fun a v r => some (gK a c, none, ls, r, si S a k v)
  | some 1 => pRI st fun a v r => some (gK a c, some (v = 0 ∨ v = 1), ls, r, si S a k v)
  | some 2 => pRL st fun a v r => some (gK a c, none, ls, r, sl S a k v)
  | some 4 => pRR st fun a b r => some (gK a c, none, ls, r, sr S a k b)
  | _ => none
def apu (e : aE) (ls : aLs) (st : List Value) (S : aS) : aT := match e.2.1 with
  | .iconst _ => aok ls (.int e.2.2.2.2.2.2.1 :: st) S
  | .bipush _ => aok ls (.int e.2.2.2.2.2.2.1 :: st) S
  | .sipush _ => aok ls (.int e.2.2.2.2.2.2.1 :: st) S
  | .ldc _ => aok ls (.int e.2.2.2.2.2.2.1 :: st) S
  | .ldc_w _ => aok ls (.int e.2.2.2.2.2.2.1 :: st) S
  | .lconst _ => aok ls (.long e.2.2.2.2.2.2.2 :: st) S
  | .ldc2_w _ => aok ls (.long e.2.2.2.2.2.2.2 :: st) S
  | .iload_n i => aldI ls i fun x => aok ls (.int x :: st) S
  | .iload i => aldI ls i fun x => aok ls (.int x :: st) S
  | .lload_n i => aldL ls i fun x => aok ls (.long x :: st) S
  | .lload i => aldL ls i fun x => aok ls (.long x :: st) S
  | .aload_n i => aldR ls i fun x => aok ls (.ref x :: st) S
  | .aload i => aldR ls i fun x => aok ls (.ref x :: st) S
  | .istore_n i => pI st fun x r => aput ls i (aok (ast1 ls i (.int x)) r S)
  | .istore i => pI st fun x r => aput ls i (aok (ast1 ls i (.int x)) r S)
  | .lstore_n i => pL st fun x r => aput ls (i + 1) (aok (ast2 ls i (.long x)) r S)
  | .lstore i => pL st fun x r => aput ls (i + 1) (aok (ast2 ls i (.long x)) r S)
  | .astore_n i => pR st fun x r => aput ls i (aok (ast1 ls i (.ref x)) r S)
  | .astore i => pR st fun x r => aput ls i (aok (ast1 ls i (.ref x)) r S)
  | .iinc i _ => aldI ls i fun x => aput ls i (aok (ast1 ls i (.int (x + e.2.2.2.2.2.2.1))) st S)
  | .iadd => pII st fun x y r => aok ls (.int (x + y) :: r) S
  | .isub => pII st fun x y r => aok ls (.int (x - y) :: r) S
  | .imul => pII st fun x y r => aok ls (.int (x * y) :: r) S
  | .iand => pII st fun x y r => aok ls (.int (x &&& y) :: r) S
  | .ior => pII st fun x y r => aok ls (.int (x ||| y) :: r) S
  | .ixor => pII st fun x y r => aok ls (.int (x ^^^ y) :: r) S
  | .idiv => pII st fun x y r => agd (¬ y = 0) ls (.int (x / y) :: r) S
  | .irem => pII st fun x y r => agd (¬ y = 0) ls (.int (x - x / y * y) :: r) S
  | .ishl => pII st fun x y r => aok ls (.int (x <<< (y &&& 31)) :: r) S
  | .ishr => pII st fun x y r => aok ls (.int (x >>> (y &&& 31)) :: r) S
  | .iushr => pII st fun x y r => aok ls (.int (x.toUInt32 >>> (y.toUInt32 &&& Int32.toUInt32 31)).toInt32 :: r) S
  | .ladd => pLL st fun x y r => aok ls (.long (x + y) :: r) S
  | .lsub => pLL st fun x y r => aok ls (.long (x - y) :: r) S
  | .lmul => pLL st fun x y r => aok ls (.long (x * y) :: r) S
  | .land => pLL st fun x y r => aok ls (.long (x &&& y) :: r) S
  | .lor => pLL st fun x y r => aok ls (.long (x ||| y) :: r) S
  | .ldiv => pLL st fun x y r => agd (¬ y = 0) ls (.long (x / y) :: r) S
  | .lrem => pLL st fun x y r => agd (¬ y = 0) ls (.long (x - x / y * y) :: r) S
  | .lshl => pLI st fun x y r => aok ls (.long (x <<< (y.toInt64 &&& 63)) :: r) S
  | .lushr => pLI st fun x y r => aok ls (.long (x.toUInt64 >>> (y.toInt64.toUInt64 &&& Int64.toUInt64 63)).toInt64 :: r) S
  | .lcmp => pLL st fun x y r => aok ls (.int (lg_cmp x y) :: r) S
  | .i2l => pI st fun x r => aok ls (.long x.toInt64 :: r) S
  | .l2i => pL st fun x r => aok ls (.int x.toInt32 :: r) S
  | .i2b => pI st fun x r => aok ls (.int x.toInt8.toInt32 :: r) S
  | .i2c => pI st fun x r => aok ls (.int (x.toUInt32 % 65536).toInt32 :: r) S
  | .dup => (match st with
    | v :: r => cond (acat2 v) none (aok ls (v :: v :: r) S)
    | _ => none)
  | .dup2 => (match st with
    | v :: w :: r => cond (acat2 v) (aok ls (v :: v :: w :: r) S) (cond (acat2 w) none (aok ls (v :: w :: v :: w :: r) S))
    | _ => none)
  | .pop => (match st with
    | v :: r => cond (acat2 v) none (aok ls r S)
    | _ => none)
  | .getfield _ => pR st fun a r => afg S a e.2.2.2.2.1 e.2.2.2.2.2.1 fun v => some (gK a e.2.2.2.2.1, none, ls, v :: r, S)
  | .putfield _ => afp S e.2.2.2.2.1 e.2.2.2.2.2.1 ls st
  | .iaload => pRI st fun x i r => some (gK x e.2.2.2.2.1, some (vp_in i (aln x)), ls, .int (ga S x i.toNatClampNeg) :: r, S)
  | .iastore => pRII st fun x i v r => some (gK x e.2.2.2.2.1, some (vp_in i (aln x)), ls, r, sa S x i.toNatClampNeg v)
  | .laload => pRI st fun x i r => some (gK x e.2.2.2.2.1, some (vp_in i (aln x)), ls, .long (gb S x i.toNatClampNeg) :: r, S)
  | .lastore => pRIL st fun x i v r => some (gK x e.2.2.2.2.1, some (vp_in i (aln x)), ls, r, sb S x i.toNatClampNeg v)
  | .baload => pRI st fun x i r => cond (Nat.beq e.2.2.2.2.1 22) (some (gK x e.2.2.2.2.1, some (vp_in i (aln x)), ls, .int (ga S x i.toNatClampNeg) :: r, S)) (some (gK x e.2.2.2.2.1, some (vp_in i (aln x)), ls, .int (ga S x i.toNatClampNeg) :: r, S))
  | .bastore => pRII st fun x i v r => cond (Nat.beq e.2.2.2.2.1 22) (some (gK x e.2.2.2.2.1, some (vp_in i (aln x)), ls, r, sa S x i.toNatClampNeg (vp_nar .byte v))) (some (gK x e.2.2.2.2.1, some (vp_in i (aln x)), ls, r, sa S x i.toNatClampNeg (vp_nar .boolean v)))
  | .aaload => pRI st fun x i r => some (gK x e.2.2.2.2.1, some (vp_in i (aln x)), ls, .ref (ara x i.toNatClampNeg) :: r, S)
  | .arraylength => pR st fun x r => some (gK x e.2.2.2.2.1, none, ls, .int (Int32.ofNat (aln x)) :: r, S)
  | _ => none
def abr (c : ClassFile.Cond) (x y : Int32) (T F : Prop) : Prop := match c with
  | .eq => (x = y → T) ∧ (¬ x = y → F)
  | .ne => (¬ x = y → T) ∧ (x = y → F)
  | .lt => (x < y → T) ∧ (¬ x < y → F)
  | .ge => (y ≤ x → T) ∧ (¬ y ≤ x → F)
  | .gt => (y < x → T) ∧ (¬ y < x → F)
  | .le => (x ≤ y → T) ∧ (¬ x ≤ y → F)
def aba (c : ClassFile.ACond) (x y : Nat) (T F : Prop) : Prop := match c with
  | .eq => (x = y → T) ∧ (¬ x = y → F)
  | .ne => (¬ x = y → T) ∧ (x = y → F)
/-- a jump: over so many instructions, or to a cut -/
def ajp (e : aE) (nx : Nat → aLs → List Value → aS → Prop) (go : Nat → aLs → List Value → aS → Prop) (ls : aLs) (st : List Value) (S : aS) : Prop := match e.2.2.2.2.2.1 with
  | 0 => go e.2.2.2.2.1 ls st S
  | _ => nx e.2.2.2.2.1 ls st S
def aI (v : Value) (k : Int32 → Prop) : Prop := match v with
  | .int x => k x
  | _ => False
def aL (v : Value) (k : Int64 → Prop) : Prop := match v with
  | .long x => k x
  | _ => False
def aA (v : Value) (k : Nat → Prop) : Prop := match v with
  | .ref x => k x
  | _ => False
def aV (v : Value) (X : Prop) : Prop := match v with
  | .null => X
  | _ => False
/-- what a call brings: nothing, an int, a long, a reference -/
def arv (n : Nat) (v : Value) (k : List Value → Prop) : Prop := match n with
  | 0 => aV v (k [])
  | 1 => aI v fun x => k [.int x]
  | 2 => aL v fun x => k [.long x]
  | _ => aA v fun x => k [.ref x]
def acs (st : List Value) : Nat := (st.map fun v => v.category).sum
/-- a switch by a row of numbers from lo on: where each goes -/
def asw (x : Int32) (d : Nat) (k : Nat → Prop) : List (Int32 × Nat) → Prop
  | [] => k d
  | (c, t) :: r => (x = c → k t) ∧ (¬ x = c → asw x d k r)
section
variable (px : aE → aLs → List Value → aS → aT) (tb : Nat → List (Int32 × Nat)) (cl : Nat → List Value → aS → (Value → aS → Prop) → Prop) (Q : Value → aS → Prop) (nx : Nat → aLs → List Value → aS → Prop)
def acl (e : aE) (go : Nat → aLs → List Value → aS → Prop) (ls : aLs) (st : List Value) (S : aS) : Prop :=
  match Nat.ble (acs (st.drop (e.2.2.2.2.2.1 % 16))) 8 && Nat.ble (e.2.2.2.2.2.1 % 16) st.length with
  | true => cl e.2.2.2.2.1 (st.take (e.2.2.2.2.2.1 % 16)).reverse S (fun v S' => arv (e.2.2.2.2.2.1 / 16) v fun l => go 0 ls (l ++ st.drop (e.2.2.2.2.2.1 % 16)) S')
  | false => False
def apw (e : aE) (go : Nat → aLs → List Value → aS → Prop) (ls : aLs) (st : List Value) (S : aS) : Prop := match cond (Nat.ble 5000 e.2.2.2.2.1) (px e ls st S) (apu e ls st S) with
  | some (g1, g2, ls', st', S') => aG g1 (aG g2 (go 0 ls' st' S'))
  | none => False
def astp (e : aE) (go : Nat → aLs → List Value → aS → Prop) (ls : aLs) (st : List Value) (S : aS) : Prop := match e.2.1 with
  | .ifCond c _ => (match st with
    | .int x :: r => abr c x 0 (ajp e nx go ls r S) (go 0 ls r S)
    | _ => False)
  | .if_icmp c _ => (match st with
    | .int y :: .int x :: r => abr c x y (ajp e nx go ls r S) (go 0 ls r S)
    | _ => False)
  | .if_acmp c _ => (match st with
    | .ref y :: .ref x :: r => aG (gC x) (aG (gC y) (aba c x y (ajp e nx go ls r S) (go 0 ls r S)))
    | _ => False)
  | .goto _ => ajp e nx go ls st S
  | .tableswitch _ _ _ _ => (match st with
    | .int x :: r => asw x e.2.2.2.2.2.1 (fun t => nx t ls r S) (tb e.2.2.2.2.1)
    | _ => False)
  | .ireturn => (match st with
    | [.int x] => (match e.2.2.2.2.1 with
      | 0 => Q (.int x) S
      | _ => (x = 0 ∨ x = 1) ∧ Q (.int x) S)
    | _ => False)
  | .lreturn => (match st with
    | [.long x] => Q (.long x) S
    | _ => False)
  | .areturn => (match st with
    | [.ref x] => Q (.ref x) S
    | _ => False)
  | .return_ => (match st with
    | [] => Q .null S
    | _ => False)
  | .invokevirtual _ => cond (Nat.ble 5000 e.2.2.2.2.1) (apw px e go ls st S) (acl cl e go ls st S)
  | .invokespecial _ => cond (Nat.ble 5000 e.2.2.2.2.1) (apw px e go ls st S) (acl cl e go ls st S)
  | .invokestatic _ => cond (Nat.ble 5000 e.2.2.2.2.1) (apw px e go ls st S) (acl cl e go ls st S)
  | _ => apw px e go ls st S
/-- the row of instructions from here on: over k of them, then one by one up to the cuts ('f': the first one is none) -/
noncomputable def awp (code : List aE) : Nat → Bool → aLs → List Value → aS → Prop :=
  List.rec (motive := fun _ => Nat → Bool → aLs → List Value → aS → Prop) (fun _ _ _ _ _ => False)
    (fun e _ ih => fun k f ls st S => Nat.rec (motive := fun _ => Prop)
      (cond (f || Nat.beq e.2.2.2.1 0) (astp px tb cl Q nx e (fun k => ih k false) ls st S) (nx (e.2.2.2.1 - 1) ls st S)) (fun k' _ => ih k' f ls st S) k) code
end
/-- at a cut only the locals are kept that are used behind it -/
def amk : Nat → aLs → aLs
  | _, [] => []
  | m, x :: t => cond (Nat.beq (m % 2) 1) x none :: amk (m / 2) t
/-- from the cut q on the method comes to Q: the least that goes on so -/
def aP (px : aE → aLs → List Value → aS → aT) (tb : Nat → List (Int32 × Nat)) (cl : Nat → List Value → aS → (Value → aS → Prop) → Prop) (mk : Nat → Nat) (code : List aE) (Q : Value → aS → Prop) (q : Nat) (ls : aLs) (st : List Value) (S : aS) : Prop :=
  ∀ I : Nat → aLs → List Value → aS → Prop, (∀ q ls st S, awp px tb cl Q (fun q ls => I q (amk (mk q) ls)) (code.drop q) 0 true ls st S → I q ls st S) → I q ls st S
def alE : List Value → aLs
  | [] => []
  | v :: t => cond (acat2 v) (some v :: none :: alE t) (some v :: alE t)
def alc (args : List Value) (n : Nat) : aLs := alE args ++ List.replicate (n - (alE args).length) none
end
section
/-! the small machine: more where less is asked -/
theorem aG_mono {g : Option Prop} {X Y : Prop} (h : X → Y) (x : aG g X) : aG g Y := by
  cases g with
  | none => exact h x
  | some P => exact ⟨x.1, h x.2⟩
theorem cond_mono {b : Bool} {X Y X' Y' : Prop} (hX : X → X') (hY : Y → Y') (h : cond b X Y) : cond b X' Y' := by
  cases b <;> first | exact hY h | exact hX h
theorem abr_mono {c : ClassFile.Cond} {x y : Int32} {T F T' F' : Prop} (hT : T → T') (hF : F → F') (h : abr c x y T F) : abr c x y T' F' := by
  cases c <;> exact ⟨fun z => hT (h.1 z), fun z => hF (h.2 z)⟩
theorem aba_mono {c : ClassFile.ACond} {x y : Nat} {T F T' F' : Prop} (hT : T → T') (hF : F → F') (h : aba c x y T F) : aba c x y T' F' := by
  cases c <;> exact ⟨fun z => hT (h.1 z), fun z => hF (h.2 z)⟩
theorem aI_mono {v : Value} {k k' : Int32 → Prop} (h : ∀ x, k x → k' x) (x : aI v k) : aI v k' := by
  cases v <;> first | exact h _ x | exact x
theorem aL_mono {v : Value} {k k' : Int64 → Prop} (h : ∀ x, k x → k' x) (x : aL v k) : aL v k' := by
  cases v <;> first | exact h _ x | exact x
theorem aA_mono {v : Value} {k k' : Nat → Prop} (h : ∀ x, k x → k' x) (x : aA v k) : aA v k' := by
  cases v <;> first | exact h _ x | exact x
theorem aV_mono {v : Value} {X Y : Prop} (h : X → Y) (x : aV v X) : aV v Y := by
  cases v <;> first | exact h x | exact x
theorem arv_mono {n : Nat} {v : Value} {k k' : List Value → Prop} (h : ∀ l, k l → k' l) (x : arv n v k) : arv n v k' := by
  match n with
  | 0 => exact aV_mono (h _) x
  | 1 => exact aI_mono (fun _ => h _) x
  | 2 => exact aL_mono (fun _ => h _) x
  | n + 3 => exact aA_mono (fun _ => h _) x
theorem asw_mono {x : Int32} {d : Nat} {k k' : Nat → Prop} (h : ∀ t, k t → k' t) : ∀ l : List (Int32 × Nat), asw x d k l → asw x d k' l
  | [], z => h _ z
  | (_, _) :: r, z => ⟨fun e => h _ (z.1 e), fun e => asw_mono h r (z.2 e)⟩
section
variable {px : aE → aLs → List Value → aS → aT} {tb : Nat → List (Int32 × Nat)} {cl cl' : Nat → List Value → aS → (Value → aS → Prop) → Prop} {Q Q' : Value → aS → Prop} {nx nx' : Nat → aLs → List Value → aS → Prop} {go go' : Nat → aLs → List Value → aS → Prop}
theorem ajp_mono (hn : ∀ q l s S, nx q l s S → nx' q l s S) (hg : ∀ k l s S, go k l s S → go' k l s S) {e : aE} {ls : aLs} {st : List Value} {S : aS} (h : ajp e nx go ls st S) : ajp e nx' go' ls st S := by
  unfold ajp at h ⊢
  split at h
  · exact hg _ _ _ _ h
  · exact hn _ _ _ _ h
theorem apw_mono (hg : ∀ k l s S, go k l s S → go' k l s S) {e : aE} {ls : aLs} {st : List Value} {S : aS} (h : apw px e go ls st S) : apw px e go' ls st S := by
  unfold apw at h ⊢
  split at h
  · exact aG_mono (aG_mono (hg _ _ _ _)) h
  · exact h
theorem acl_mono (hc : ∀ j a S R R', (∀ v S, R v S → R' v S) → cl j a S R → cl' j a S R') (hg : ∀ k l s S, go k l s S → go' k l s S) {e : aE} {ls : aLs} {st : List Value} {S : aS} (h : acl cl e go ls st S) : acl cl' e go' ls st S := by
  unfold acl at h ⊢
  split at h
  · exact hc _ _ _ _ _ (fun v S => arv_mono fun l => hg _ _ _ _) h
  · exact h
theorem astp_mono (hc : ∀ j a S R R', (∀ v S, R v S → R' v S) → cl j a S R → cl' j a S R') (hQ : ∀ v S, Q v S → Q' v S) (hn : ∀ q l s S, nx q l s S → nx' q l s S) (hg : ∀ k l s S, go k l s S → go' k l s S)
    {e : aE} {ls : aLs} {st : List Value} {S : aS} (h : astp px tb cl Q nx e go ls st S) : astp px tb cl' Q' nx' e go' ls st S := by
  unfold astp at h ⊢
  split at h
  · split at h
    · exact abr_mono (ajp_mono hn hg) (hg _ _ _ _) h
    · exact h
  · split at h
    · exact abr_mono (ajp_mono hn hg) (hg _ _ _ _) h
    · exact h
  · split at h
    · exact aG_mono (aG_mono (aba_mono (ajp_mono hn hg) (hg _ _ _ _))) h
    · exact h
  · exact ajp_mono hn hg h
  · split at h
    · exact asw_mono (fun t => hn _ _ _ _) _ h
    · exact h
  · split at h
    · split at h
      · exact hQ _ _ h
      · exact ⟨h.1, hQ _ _ h.2⟩
    · exact h
  · split at h
    · exact hQ _ _ h
    · exact h
  · split at h
    · exact hQ _ _ h
    · exact h
  · split at h
    · exact hQ _ _ h
    · exact h
  · exact cond_mono (apw_mono hg) (acl_mono hc hg) h
  · exact cond_mono (apw_mono hg) (acl_mono hc hg) h
  · exact cond_mono (apw_mono hg) (acl_mono hc hg) h
  · exact apw_mono hg h
theorem awp_mono (hc : ∀ j a S R R', (∀ v S, R v S → R' v S) → cl j a S R → cl' j a S R') (hQ : ∀ v S, Q v S → Q' v S) (hn : ∀ q l s S, nx q l s S → nx' q l s S) :
    ∀ (code : List aE) (k : Nat) (f : Bool) (ls : aLs) (st : List Value) (S : aS), awp px tb cl Q nx code k f ls st S → awp px tb cl' Q' nx' code k f ls st S := by
  intro code
  induction code with
  | nil => intro k f ls st S h; exact h
  | cons e t ih =>
    intro k f ls st S h
    cases k with
    | succ k => exact ih k f ls st S h
    | zero =>
      have h : cond (f || Nat.beq e.2.2.2.1 0) (astp px tb cl Q nx e (fun k => awp px tb cl Q nx t k false) ls st S) (nx (e.2.2.2.1 - 1) ls st S) := h
      show cond (f || Nat.beq e.2.2.2.1 0) (astp px tb cl' Q' nx' e (fun k => awp px tb cl' Q' nx' t k false) ls st S) (nx' (e.2.2.2.1 - 1) ls st S)
      cases hb : (f || Nat.beq e.2.2.2.1 0) with
      | true => rw [hb] at h; exact astp_mono hc hQ hn (fun k => ih k false) h
      | false => rw [hb] at h; exact hn _ _ _ _ h
end
section
variable {px : aE → aLs → List Value → aS → aT} {tb : Nat → List (Int32 × Nat)} {cl cl' : Nat → List Value → aS → (Value → aS → Prop) → Prop} {mk : Nat → Nat} {Q Q' : Value → aS → Prop} {code : List aE}
/-- a cut: the row of instructions behind it, each further cut likewise -/
theorem aP_go (hc : ∀ j a S R R', (∀ v S, R v S → R' v S) → cl j a S R → cl j a S R') {q : Nat} {ls : aLs} {st : List Value} {S : aS} (h : awp px tb cl Q (fun q ls => aP px tb cl mk code Q q (amk (mk q) ls)) (code.drop q) 0 true ls st S) : aP px tb cl mk code Q q ls st S := by
  intro I hI
  exact hI _ _ _ _ (awp_mono hc (fun _ _ h => h) (fun q l s S (z : aP px tb cl mk code Q q (amk (mk q) l) s S) => z I hI) _ _ _ _ _ _ h)
theorem aP_mono (hc : ∀ j a S R R', (∀ v S, R v S → R' v S) → cl j a S R → cl' j a S R') (hQ : ∀ v S, Q v S → Q' v S) {q : Nat} {ls : aLs} {st : List Value} {S : aS} (h : aP px tb cl mk code Q q ls st S) : aP px tb cl' mk code Q' q ls st S := by
  intro I hI
  exact h I fun q ls st S z => hI _ _ _ _ (awp_mono hc hQ (fun _ _ _ _ z => z) _ _ _ _ _ _ z)
end
end
section
/-! how a state of the small machine lies in the heap: the cell of number i at the address 'ad i' -/
abbrev vwCl : List vw_C := [(RX1, TX1, 6), (RX2, TX2, 1), (RX3, TX3, 3), (RX4, TX4, 7), (RX5, TX5, 6), (RX6, TX6, 4), (RX7, TX7, 16), (RX8, TX8, 1), (RX10, TX10, 7), (RX11, TX11, 8), (RX12, TX12, 12), (RX13, TX13, 63)]
def atv (ad : Nat → Nat) (v : Value) : Value := match v with
  | .ref a => .ref (ad a)
  | .int x => .int x
  | .long x => .long x
  | .float x => .float x
  | .double x => .double x
  | .null => .null
  | .retAddr x => .retAddr x
theorem atv_cat (ad : Nat → Nat) (v : Value) : (atv ad v).category = v.category := by cases v <;> rfl
def afv (ad : Nat → Nat) (S : aS) (i : Nat) (q : Nat × Nat) : Value := match q.1 with
  | 0 => .int (gi S i q.2)
  | 1 => .int (gi S i q.2)
  | 2 => .long (gl S i q.2)
  | 3 => .ref (ad (art i q.2))
  | _ => .ref (ad (gr S i q.2))
def arw (ad : Nat → Nat) (S : aS) (i : Nat) : (Nat → Int32) ⊕ (Nat → Int64) ⊕ (Nat → UInt32) ⊕ (Nat → UInt64) ⊕ (Nat → Option Nat) := match akd i % 10 with
  | 1 => .inr (.inl (S.2.2.2.2 i))
  | 4 => .inr (.inr (.inr (.inr fun k => some (ad (ara i k)))))
  | 5 => .inr (.inr (.inr (.inr fun k => some (ad (ara i k)))))
  | _ => .inl (S.2.2.2.1 i)
def ace (ad : Nat → Nat) (cy : Nat → ClassId) (S : aS) (i : Nat) : va_E := cond (Nat.blt (akd i) 20) (.inr (akd i, (aft (akd i)).zipIdx.map (afv ad S i))) (.inl (cy (akd i % 10), aln i, arw ad S i))
def aws (ad : Nat → Nat) (cy : Nat → ClassId) (ids : List Nat) (S : aS) : va_W := ids.map fun i => (ad i, ace ad cy S i)
abbrev atys (cy : Nat → ClassId) : List (ClassId × FieldType) := [(cy 0, .int), (cy 1, .long), (cy 2, .byte), (cy 3, .boolean), (cy 4, .object RX5), (cy 5, .object RX10)]
theorem ace_obj {ad : Nat → Nat} {cy : Nat → ClassId} {S : aS} {i c : Nat} (h : akd i = c) (hc : Nat.blt c 20 = true) : ace ad cy S i = .inr (c, (aft c).zipIdx.map (afv ad S i)) := by
  unfold ace
  rw [h, hc]
  rfl
theorem ace_arr {ad : Nat → Nat} {cy : Nat → ClassId} {S : aS} {i c : Nat} (h : akd i = c) (hc : Nat.blt c 20 = false) : ace ad cy S i = .inl (cy (c % 10), aln i, arw ad S i) := by
  unfold ace
  rw [h, hc]
  rfl
theorem arw_I {ad : Nat → Nat} {S : aS} {i c : Nat} (h : akd i = c) (hc : c % 10 = 0 ∨ c % 10 = 2 ∨ c % 10 = 3) : arw ad S i = .inl (S.2.2.2.1 i) := by
  unfold arw
  rw [h]
  rcases hc with hc | hc | hc <;> simp only [hc]
theorem arw_L {ad : Nat → Nat} {S : aS} {i c : Nat} (h : akd i = c) (hc : c % 10 = 1) : arw ad S i = .inr (.inl (S.2.2.2.2 i)) := by
  unfold arw
  simp only [h, hc]
theorem arw_R {ad : Nat → Nat} {S : aS} {i c : Nat} (h : akd i = c) (hc : c % 10 = 4 ∨ c % 10 = 5) : arw ad S i = .inr (.inr (.inr (.inr fun k => some (ad (ara i k))))) := by
  unfold arw
  rw [h]
  rcases hc with hc | hc <;> simp only [hc]
theorem aws_at {ad : Nat → Nat} {cy : Nat → ClassId} {ids : List Nat} {S : aS} {i : Nat} (h : i ∈ ids) : ∃ q0 : Nat, ids[q0]? = some i ∧ (aws ad cy ids S)[q0]? = some (ad i, ace ad cy S i) := by
  obtain ⟨q0, hq⟩ := List.getElem?_of_mem h
  exact ⟨q0, hq, by unfold aws; rw [List.getElem?_map, hq]; rfl⟩
theorem aws_set {ad : Nat → Nat} {cy : Nat → ClassId} {ids : List Nat} {S S' : aS} {i q0 : Nat} (hn : ids.Nodup) (h : ids[q0]? = some i) (hs : ∀ j, j ≠ i → ace ad cy S' j = ace ad cy S j) : (aws ad cy ids S).set q0 (ad i, ace ad cy S' i) = aws ad cy ids S' := by
  unfold aws
  apply List.ext_getElem?
  intro n
  rw [List.getElem?_set]
  by_cases e : q0 = n
  · subst e
    obtain ⟨hlt, _⟩ := List.getElem?_eq_some_iff.mp h
    rw [if_pos rfl, if_pos (by rw [List.length_map]; exact hlt), List.getElem?_map, h]
    rfl
  · rw [if_neg e, List.getElem?_map, List.getElem?_map]
    cases hj : ids[n]? with
    | none => rfl
    | some j =>
      have hne : j ≠ i := by
        intro hji
        subst hji
        obtain ⟨h1, h2⟩ := List.getElem?_eq_some_iff.mp h
        obtain ⟨h3, h4⟩ := List.getElem?_eq_some_iff.mp hj
        exact e ((List.getElem_inj hn).mp (h2.trans h4.symm))
      show some (ad j, ace ad cy S j) = some (ad j, ace ad cy S' j)
      rw [hs j hne]
theorem aft_get {ad : Nat → Nat} {S : aS} {i c k t : Nat} (h : (aft c)[k]? = some t) : ((aft c).zipIdx.map (afv ad S i))[k]? = some (afv ad S i (t, k)) := by
  rw [List.getElem?_map, List.getElem?_zipIdx, h]
  simp
theorem aft_len {ad : Nat → Nat} {S : aS} {i c : Nat} : ((aft c).zipIdx.map (afv ad S i)).length = (aft c).length := by
  rw [List.length_map, List.length_zipIdx]
/-- a field anew: the row of the fields -/
theorem aft_set {ad : Nat → Nat} {S S' : aS} {i c k t : Nat} {v : Value} (h : (aft c)[k]? = some t) (hv : afv ad S' i (t, k) = v) (ho : ∀ t' k', k' ≠ k → afv ad S' i (t', k') = afv ad S i (t', k')) : ((aft c).zipIdx.map (afv ad S i)).set k v = (aft c).zipIdx.map (afv ad S' i) := by
  apply List.ext_getElem?
  intro n
  rw [List.getElem?_set]
  by_cases e : k = n
  · subst e
    obtain ⟨hlt, _⟩ := List.getElem?_eq_some_iff.mp h
    rw [if_pos rfl, if_pos (by rw [aft_len]; exact hlt), aft_get h, hv]
  · rw [if_neg e, List.getElem?_map, List.getElem?_map, List.getElem?_zipIdx]
    cases hj : (aft c)[n]? with
    | none => rfl
    | some t' =>
      simp only [Option.map_some, Nat.zero_add]
      rw [ho t' n (fun z => e z.symm)]
/-! what the setters leave alone -/
theorem ace_si {ad : Nat → Nat} {cy : Nat → ClassId} {S : aS} {i k : Nat} {v : Int32} (j : Nat) (h : j ≠ i) : ace ad cy (si S i k v) j = ace ad cy S j := by
  have e : afv ad (si S i k v) j = afv ad S j := by
    funext q
    unfold afv
    simp only [gi, gl, gr, si, va_up, if_neg h]
  unfold ace
  rw [e]
  rfl
theorem ace_sl {ad : Nat → Nat} {cy : Nat → ClassId} {S : aS} {i k : Nat} {v : Int64} (j : Nat) (h : j ≠ i) : ace ad cy (sl S i k v) j = ace ad cy S j := by
  have e : afv ad (sl S i k v) j = afv ad S j := by
    funext q
    unfold afv
    simp only [gi, gl, gr, sl, va_up, if_neg h]
  unfold ace
  rw [e]
  rfl
theorem ace_sr {ad : Nat → Nat} {cy : Nat → ClassId} {S : aS} {i k v : Nat} (j : Nat) (h : j ≠ i) : ace ad cy (sr S i k v) j = ace ad cy S j := by
  have e : afv ad (sr S i k v) j = afv ad S j := by
    funext q
    unfold afv
    simp only [gi, gl, gr, sr, va_up, if_neg h]
  unfold ace
  rw [e]
  rfl
theorem ace_sa {ad : Nat → Nat} {cy : Nat → ClassId} {S : aS} {i k : Nat} {v : Int32} (j : Nat) (h : j ≠ i) : ace ad cy (sa S i k v) j = ace ad cy S j := by
  have e : arw ad (sa S i k v) j = arw ad S j := by
    unfold arw
    simp only [sa, va_up, if_neg h]
  unfold ace
  rw [e]
  rfl
theorem ace_sb {ad : Nat → Nat} {cy : Nat → ClassId} {S : aS} {i k : Nat} {v : Int64} (j : Nat) (h : j ≠ i) : ace ad cy (sb S i k v) j = ace ad cy S j := by
  have e : arw ad (sb S i k v) j = arw ad S j := by
    unfold arw
    simp only [sb, va_up, if_neg h]
  unfold ace
  rw [e]
  rfl
/-! locals: what is known of them -/
def apr (ad : Nat → Nat) : Nat → aLs → List (Nat × Value)
  | _, [] => []
  | i, none :: t => apr ad (i + 1) t
  | i, some v :: t => (i, atv ad v) :: apr ad (i + 1) t
theorem apr_mem {ad : Nat → Nat} : ∀ (ls : aLs) (b : Nat) (q : Nat × Value), q ∈ apr ad b ls ↔ ∃ (i : Nat) (v : Value), ls[i]? = some (some v) ∧ q = (b + i, atv ad v) := by
  intro ls
  induction ls with
  | nil => intro b q; simp [apr]
  | cons x t ih =>
    intro b q
    cases x with
    | none =>
      rw [show apr ad b (none :: t) = apr ad (b + 1) t from rfl, ih]
      constructor
      · rintro ⟨i, v, h1, h2⟩
        exact ⟨i + 1, v, h1, by rw [h2]; congr 1; omega⟩
      · rintro ⟨i, v, h1, h2⟩
        cases i with
        | zero => cases h1
        | succ i => exact ⟨i, v, h1, by rw [h2]; congr 1; omega⟩
    | some w =>
      rw [show apr ad b (some w :: t) = (b, atv ad w) :: apr ad (b + 1) t from rfl, List.mem_cons, ih]
      constructor
      · rintro (h | ⟨i, v, h1, h2⟩)
        · exact ⟨0, w, rfl, h⟩
        · exact ⟨i + 1, v, h1, by rw [h2]; congr 1; omega⟩
      · rintro ⟨i, v, h1, h2⟩
        cases i with
        | zero => left; cases h1; exact h2
        | succ i => right; exact ⟨i, v, h1, by rw [h2]; congr 1; omega⟩
def aHas (ad : Nat → Nat) (A : Array Slot) (nL : Nat) (ls : aLs) : Prop := ls.length = nL ∧ lv_has A nL (apr ad 0 ls)
theorem aHas.at {ad : Nat → Nat} {A : Array Slot} {nL : Nat} {ls : aLs} (h : aHas ad A nL ls) {i : Nat} {v : Value} (hi : ls[i]? = some (some v)) : A[i]? = some (.val (atv ad v)) := by
  have := h.2.2.2 (i, atv ad v) ((apr_mem ls 0 _).mpr ⟨i, v, hi, by rw [Nat.zero_add]⟩)
  exact this
theorem acat2_cat {v : Value} : acat2 v = (v.category == 2) := by cases v <;> rfl
theorem akl_get {ls : aLs} {i j : Nat} {v : Value} (h : (akl ls i)[j]? = some (some v)) : ls[j]? = some (some v) ∧ (j + 1 == i && v.category == 2) = false := by
  unfold akl at h
  split at h
  · exact ⟨h, by simp⟩
  · rename_i k
    split at h
    · rename_i w hw
      cases hc : acat2 w with
      | true =>
        rw [hc] at h
        simp only [cond_true] at h
        rw [List.getElem?_set] at h
        by_cases e : k = j
        · rw [if_pos e] at h
          split at h <;> cases h
        · rw [if_neg e] at h
          refine ⟨h, ?_⟩
          have : (j + 1 == k + 1) = false := by simp; omega
          rw [this]; rfl
      | false =>
        rw [hc] at h
        simp only [cond_false] at h
        refine ⟨h, ?_⟩
        by_cases e : k = j
        · subst e
          rw [hw] at h
          cases h
          rw [acat2_cat] at hc
          rw [hc]
          simp
        · have : (j + 1 == k + 1) = false := by simp; omega
          rw [this]; rfl
    · rename_i hw
      refine ⟨h, ?_⟩
      by_cases e : k = j
      · subst e
        exact absurd h (hw v)
      · have : (j + 1 == k + 1) = false := by simp; omega
        rw [this]; rfl
theorem akl_len {ls : aLs} {i : Nat} : (akl ls i).length = ls.length := by
  unfold akl
  split
  · rfl
  · split
    · rename_i w _
      cases acat2 w <;> simp
    · rfl
theorem aHas.st1 {ad : Nat → Nat} {A A' : Array Slot} {nL i : Nat} {ls : aLs} {v : Value} (h : aHas ad A nL ls) (h' : lv_has A' nL ((i, atv ad v) :: (apr ad 0 ls).filter (fun q => !(q.1 == i) && !(q.1 + 1 == i && q.2.category == 2)))) : aHas ad A' nL (ast1 ls i v) := by
  refine ⟨by unfold ast1; rw [List.length_set, akl_len]; exact h.1, h'.1, h'.2.1, fun q hq => h'.2.2 q ?_⟩
  obtain ⟨j, w, h1, rfl⟩ := (apr_mem _ _ _).mp hq
  rw [Nat.zero_add]
  unfold ast1 at h1
  rw [List.getElem?_set] at h1
  by_cases e : i = j
  · subst e
    rw [if_pos rfl] at h1
    split at h1
    · cases h1; exact List.mem_cons_self
    · cases h1
  · rw [if_neg e] at h1
    obtain ⟨h2, h3⟩ := akl_get h1
    refine List.mem_cons_of_mem _ (List.mem_filter.mpr ⟨(apr_mem _ _ _).mpr ⟨j, w, h2, by rw [Nat.zero_add]⟩, ?_⟩)
    have e1 : (j == i) = false := by simp; exact fun z => e z.symm
    show (!(j == i) && !(j + 1 == i && (atv ad w).category == 2)) = true
    rw [atv_cat, h3, e1]
    rfl
theorem aHas.st2 {ad : Nat → Nat} {A A' : Array Slot} {nL i : Nat} {ls : aLs} {v : Value} (h : aHas ad A nL ls) (h' : lv_has A' nL ((i, atv ad v) :: (apr ad 0 ls).filter (fun q => !(q.1 == i) && (!(q.1 == i + 1) && !(q.1 + 1 == i && q.2.category == 2))))) : aHas ad A' nL (ast2 ls i v) := by
  refine ⟨by unfold ast2; rw [List.length_set, List.length_set, akl_len]; exact h.1, h'.1, h'.2.1, fun q hq => h'.2.2 q ?_⟩
  obtain ⟨j, w, h1, rfl⟩ := (apr_mem _ _ _).mp hq
  rw [Nat.zero_add]
  unfold ast2 at h1
  rw [List.getElem?_set] at h1
  by_cases e1 : i + 1 = j
  · rw [if_pos e1] at h1
    split at h1 <;> cases h1
  · rw [if_neg e1, List.getElem?_set] at h1
    by_cases e : i = j
    · subst e
      rw [if_pos rfl] at h1
      split at h1
      · cases h1; exact List.mem_cons_self
      · cases h1
    · rw [if_neg e] at h1
      obtain ⟨h2, h3⟩ := akl_get h1
      refine List.mem_cons_of_mem _ (List.mem_filter.mpr ⟨(apr_mem _ _ _).mpr ⟨j, w, h2, by rw [Nat.zero_add]⟩, ?_⟩)
      have e2 : (j == i) = false := by simp; exact fun z => e z.symm
      have e3 : (j == i + 1) = false := by simp; exact fun z => e1 z.symm
      show (!(j == i) && (!(j == i + 1) && !(j + 1 == i && (atv ad w).category == 2))) = true
      rw [atv_cat, h3, e2, e3]
      rfl
end
section
/-! the links of the fields and the constants, by a program: own class, number in its pool, class and place of the field -/
def aCN (n : Nat) : String := cond (Nat.ble n 6) (cond (Nat.ble n 2) (cond (Nat.ble n 0) (RX1) (cond (Nat.ble n 1) (RX2) (RX3))) (cond (Nat.ble n 4) (cond (Nat.ble n 3) (RX4) (RX5)) (cond (Nat.ble n 5) (RX6) (RX7)))) (cond (Nat.ble n 10) (cond (Nat.ble n 8) (cond (Nat.ble n 7) (RX8) (RX10)) (cond (Nat.ble n 9) (RX11) (RX12))) (cond (Nat.ble n 12) (cond (Nat.ble n 11) (RX13) (RL)) (cond (Nat.ble n 13) (RJ6) (RJ9))))
abbrev aQ : Type := Nat × Nat × Nat × Nat
def aNest (w : Cond) : Bool := match w with
  | .fieldLinkNest _ _ _ _ _ _ => true
  | .methodLinkNest _ _ _ _ => true
  | _ => false
/-- the words of nest mates -/
def aNW : List Cond := tables_1.filter aNest
theorem aN_t (i : Nat) {w : Cond} (h : tables_1[i]? = some w) (g : aNest w = true) : w ∈ aNW := List.mem_filter.mpr ⟨List.mem_of_getElem? h, g⟩
theorem aNW_warm {s U : State} (hW : s.WarmedH U.vm) (h : ∀ w ∈ aNW, va_Nw w s) : ∀ w ∈ aNW, va_Nw w U := by
  intro w hw
  have g := (List.mem_filter.mp hw).2
  have h1 := h w hw
  cases w <;> first | exact va_Nw.warmF hW h1 | exact va_Nw.warmM hW h1 | cases g
theorem aNW_same {s U : State} (hv : s.vm = U.vm) (h : ∀ w ∈ aNW, va_Nw w s) : ∀ w ∈ aNW, va_Nw w U := by
  intro w hw
  have g := (List.mem_filter.mp hw).2
  have h1 := h w hw
  cases w <;> first | exact va_Nw.same rfl hv h1 | cases g
def aLok (q : aQ) : Prop := ∃ r : vw_C, vwCl[q.2.2.1]? = some r ∧ q.2.2.2 < r.2.2 ∧ Cond.fieldLink (aCN q.1) q.2.1 (r.2.1 q.2.2.2).1 (r.2.1 q.2.2.2).2.1 (r.2.1 q.2.2.2).2.2.1 ∈ aWS
def aPok (q : aQ) : Prop := ∃ r : vw_C, vwCl[q.2.2.1]? = some r ∧ q.2.2.2 < r.2.2 ∧ (r.2.1 q.2.2.2).2.2.2 = false ∧ Cond.fieldLink (aCN q.1) q.2.1 (r.2.1 q.2.2.2).1 (r.2.1 q.2.2.2).2.1 (r.2.1 q.2.2.2).2.2.1 ∈ aWS
def aLNok (q : aQ) : Prop := ∃ r : vw_C, vwCl[q.2.2.1]? = some r ∧ q.2.2.2 < r.2.2 ∧ Cond.fieldLinkNest (aCN q.1) q.2.1 (r.2.1 q.2.2.2).1 (r.2.1 q.2.2.2).2.1 (r.2.1 q.2.2.2).2.2.1 RX12 ∈ aNW
def aPNok (q : aQ) : Prop := ∃ r : vw_C, vwCl[q.2.2.1]? = some r ∧ q.2.2.2 < r.2.2 ∧ (r.2.1 q.2.2.2).2.2.2 = false ∧ Cond.fieldLinkNest (aCN q.1) q.2.1 (r.2.1 q.2.2.2).1 (r.2.1 q.2.2.2).2.1 (r.2.1 q.2.2.2).2.2.1 RX12 ∈ aNW
theorem aLT_0 : aLok (0, 9, 0, 1) := ⟨(RX1, TX1, 6), rfl, by decide, aW_t 122 (by decide +kernel) (by decide +kernel)⟩
theorem aLT_1 : aLok (0, 13, 0, 2) := ⟨(RX1, TX1, 6), rfl, by decide, aW_t 123 (by decide +kernel) (by decide +kernel)⟩
theorem aLT_2 : aLok (0, 20, 0, 3) := ⟨(RX1, TX1, 6), rfl, by decide, aW_t 124 (by decide +kernel) (by decide +kernel)⟩
theorem aLT_3 : aLok (0, 23, 0, 4) := ⟨(RX1, TX1, 6), rfl, by decide, aW_t 125 (by decide +kernel) (by decide +kernel)⟩
theorem aLT_4 : aLok (0, 27, 0, 5) := ⟨(RX1, TX1, 6), rfl, by decide, aW_t 126 (by decide +kernel) (by decide +kernel)⟩
theorem aLT_5 : aLok (1, 9, 1, 0) := ⟨(RX2, TX2, 1), rfl, by decide, aW_t 88 (by decide +kernel) (by decide +kernel)⟩
theorem aLT_6 : aLok (2, 11, 2, 0) := ⟨(RX3, TX3, 3), rfl, by decide, aW_t 290 (by decide +kernel) (by decide +kernel)⟩
theorem aLT_7 : aLok (2, 18, 2, 1) := ⟨(RX3, TX3, 3), rfl, by decide, aW_t 291 (by decide +kernel) (by decide +kernel)⟩
theorem aLT_8 : aLok (2, 22, 2, 2) := ⟨(RX3, TX3, 3), rfl, by decide, aW_t 292 (by decide +kernel) (by decide +kernel)⟩
theorem aLT_9 : aLok (3, 9, 3, 0) := ⟨(RX4, TX4, 7), rfl, by decide, aW_t 309 (by decide +kernel) (by decide +kernel)⟩
theorem aLT_10 : aLok (3, 15, 3, 1) := ⟨(RX4, TX4, 7), rfl, by decide, aW_t 310 (by decide +kernel) (by decide +kernel)⟩
theorem aLT_11 : aLok (3, 18, 3, 2) := ⟨(RX4, TX4, 7), rfl, by decide, aW_t 311 (by decide +kernel) (by decide +kernel)⟩
theorem aLT_12 : aLok (3, 21, 3, 3) := ⟨(RX4, TX4, 7), rfl, by decide, aW_t 312 (by decide +kernel) (by decide +kernel)⟩
theorem aLT_13 : aLok (3, 24, 3, 4) := ⟨(RX4, TX4, 7), rfl, by decide, aW_t 314 (by decide +kernel) (by decide +kernel)⟩
theorem aLT_14 : aLok (3, 28, 3, 5) := ⟨(RX4, TX4, 7), rfl, by decide, aW_t 315 (by decide +kernel) (by decide +kernel)⟩
theorem aLT_15 : aLok (3, 88, 3, 6) := ⟨(RX4, TX4, 7), rfl, by decide, aW_t 316 (by decide +kernel) (by decide +kernel)⟩
theorem aLT_16 : aLok (4, 12, 4, 0) := ⟨(RX5, TX5, 6), rfl, by decide, aW_t 257 (by decide +kernel) (by decide +kernel)⟩
theorem aLT_17 : aLok (4, 18, 4, 1) := ⟨(RX5, TX5, 6), rfl, by decide, aW_t 259 (by decide +kernel) (by decide +kernel)⟩
theorem aLT_18 : aLok (4, 26, 4, 2) := ⟨(RX5, TX5, 6), rfl, by decide, aW_t 260 (by decide +kernel) (by decide +kernel)⟩
theorem aLT_19 : aLok (4, 30, 4, 3) := ⟨(RX5, TX5, 6), rfl, by decide, aW_t 262 (by decide +kernel) (by decide +kernel)⟩
theorem aLT_20 : aLok (4, 33, 4, 4) := ⟨(RX5, TX5, 6), rfl, by decide, aW_t 264 (by decide +kernel) (by decide +kernel)⟩
theorem aLT_21 : aLok (5, 9, 5, 2) := ⟨(RX6, TX6, 4), rfl, by decide, aW_t 95 (by decide +kernel) (by decide +kernel)⟩
theorem aLT_22 : aLok (5, 15, 5, 0) := ⟨(RX6, TX6, 4), rfl, by decide, aW_t 93 (by decide +kernel) (by decide +kernel)⟩
theorem aLT_23 : aLok (5, 24, 5, 1) := ⟨(RX6, TX6, 4), rfl, by decide, aW_t 94 (by decide +kernel) (by decide +kernel)⟩
theorem aLT_24 : aLok (5, 222, 5, 3) := ⟨(RX6, TX6, 4), rfl, by decide, aW_t 98 (by decide +kernel) (by decide +kernel)⟩
theorem aLT_25 : aLok (6, 9, 6, 1) := ⟨(RX7, TX7, 16), rfl, by decide, aW_t 146 (by decide +kernel) (by decide +kernel)⟩
theorem aLT_26 : aLok (6, 15, 6, 2) := ⟨(RX7, TX7, 16), rfl, by decide, aW_t 148 (by decide +kernel) (by decide +kernel)⟩
theorem aLT_27 : aLok (6, 19, 6, 4) := ⟨(RX7, TX7, 16), rfl, by decide, aW_t 153 (by decide +kernel) (by decide +kernel)⟩
theorem aLT_28 : aLok (6, 22, 6, 5) := ⟨(RX7, TX7, 16), rfl, by decide, aW_t 156 (by decide +kernel) (by decide +kernel)⟩
theorem aLT_29 : aLok (6, 25, 6, 6) := ⟨(RX7, TX7, 16), rfl, by decide, aW_t 159 (by decide +kernel) (by decide +kernel)⟩
theorem aLT_30 : aLok (6, 31, 6, 8) := ⟨(RX7, TX7, 16), rfl, by decide, aW_t 165 (by decide +kernel) (by decide +kernel)⟩
theorem aLT_31 : aLok (6, 34, 6, 9) := ⟨(RX7, TX7, 16), rfl, by decide, aW_t 167 (by decide +kernel) (by decide +kernel)⟩
theorem aLT_32 : aLok (6, 37, 6, 10) := ⟨(RX7, TX7, 16), rfl, by decide, aW_t 168 (by decide +kernel) (by decide +kernel)⟩
theorem aLT_33 : aLok (6, 45, 6, 14) := ⟨(RX7, TX7, 16), rfl, by decide, aW_t 179 (by decide +kernel) (by decide +kernel)⟩
theorem aLT_34 : aLok (6, 49, 6, 15) := ⟨(RX7, TX7, 16), rfl, by decide, aW_t 181 (by decide +kernel) (by decide +kernel)⟩
theorem aLT_35 : aLok (6, 52, 6, 12) := ⟨(RX7, TX7, 16), rfl, by decide, aW_t 171 (by decide +kernel) (by decide +kernel)⟩
theorem aLT_36 : aLok (6, 56, 6, 0) := ⟨(RX7, TX7, 16), rfl, by decide, aW_t 142 (by decide +kernel) (by decide +kernel)⟩
theorem aLT_37 : aLok (6, 59, 6, 3) := ⟨(RX7, TX7, 16), rfl, by decide, aW_t 150 (by decide +kernel) (by decide +kernel)⟩
theorem aLT_38 : aLok (6, 62, 6, 11) := ⟨(RX7, TX7, 16), rfl, by decide, aW_t 169 (by decide +kernel) (by decide +kernel)⟩
theorem aLT_39 : aLok (7, 9, 7, 0) := ⟨(RX8, TX8, 1), rfl, by decide, aW_t 339 (by decide +kernel) (by decide +kernel)⟩
theorem aLT_40 : aLok (8, 9, 8, 0) := ⟨(RX10, TX10, 7), rfl, by decide, aW_t 228 (by decide +kernel) (by decide +kernel)⟩
theorem aLT_41 : aLok (8, 15, 8, 1) := ⟨(RX10, TX10, 7), rfl, by decide, aW_t 230 (by decide +kernel) (by decide +kernel)⟩
theorem aLT_42 : aLok (8, 18, 8, 2) := ⟨(RX10, TX10, 7), rfl, by decide, aW_t 231 (by decide +kernel) (by decide +kernel)⟩
theorem aLT_43 : aLok (8, 30, 8, 3) := ⟨(RX10, TX10, 7), rfl, by decide, aW_t 232 (by decide +kernel) (by decide +kernel)⟩
theorem aLT_44 : aLok (8, 34, 8, 4) := ⟨(RX10, TX10, 7), rfl, by decide, aW_t 235 (by decide +kernel) (by decide +kernel)⟩
theorem aLT_45 : aLok (8, 37, 8, 5) := ⟨(RX10, TX10, 7), rfl, by decide, aW_t 238 (by decide +kernel) (by decide +kernel)⟩
theorem aLT_46 : aLok (8, 40, 8, 6) := ⟨(RX10, TX10, 7), rfl, by decide, aW_t 240 (by decide +kernel) (by decide +kernel)⟩
theorem aLT_47 : aLok (9, 9, 9, 0) := ⟨(RX11, TX11, 8), rfl, by decide, aW_t 43 (by decide +kernel) (by decide +kernel)⟩
theorem aLT_48 : aLok (9, 21, 9, 4) := ⟨(RX11, TX11, 8), rfl, by decide, aW_t 48 (by decide +kernel) (by decide +kernel)⟩
theorem aLT_49 : aLok (9, 24, 9, 1) := ⟨(RX11, TX11, 8), rfl, by decide, aW_t 45 (by decide +kernel) (by decide +kernel)⟩
theorem aLT_50 : aLok (9, 28, 9, 2) := ⟨(RX11, TX11, 8), rfl, by decide, aW_t 46 (by decide +kernel) (by decide +kernel)⟩
theorem aLT_51 : aLok (9, 37, 9, 3) := ⟨(RX11, TX11, 8), rfl, by decide, aW_t 47 (by decide +kernel) (by decide +kernel)⟩
theorem aLT_52 : aLok (9, 60, 9, 6) := ⟨(RX11, TX11, 8), rfl, by decide, aW_t 55 (by decide +kernel) (by decide +kernel)⟩
theorem aLT_53 : aLok (9, 66, 9, 5) := ⟨(RX11, TX11, 8), rfl, by decide, aW_t 53 (by decide +kernel) (by decide +kernel)⟩
theorem aLT_54 : aLok (10, 12, 10, 0) := ⟨(RX12, TX12, 12), rfl, by decide, aW_t 354 (by decide +kernel) (by decide +kernel)⟩
theorem aLT_55 : aLok (10, 21, 10, 1) := ⟨(RX12, TX12, 12), rfl, by decide, aW_t 355 (by decide +kernel) (by decide +kernel)⟩
theorem aLT_56 : aLok (10, 28, 10, 2) := ⟨(RX12, TX12, 12), rfl, by decide, aW_t 356 (by decide +kernel) (by decide +kernel)⟩
theorem aLT_57 : aLok (10, 32, 10, 3) := ⟨(RX12, TX12, 12), rfl, by decide, aW_t 357 (by decide +kernel) (by decide +kernel)⟩
theorem aLT_58 : aLok (10, 38, 10, 4) := ⟨(RX12, TX12, 12), rfl, by decide, aW_t 358 (by decide +kernel) (by decide +kernel)⟩
theorem aLT_59 : aLok (10, 42, 10, 5) := ⟨(RX12, TX12, 12), rfl, by decide, aW_t 359 (by decide +kernel) (by decide +kernel)⟩
theorem aLT_60 : aLok (10, 49, 10, 6) := ⟨(RX12, TX12, 12), rfl, by decide, aW_t 360 (by decide +kernel) (by decide +kernel)⟩
theorem aLT_61 : aLok (10, 56, 10, 7) := ⟨(RX12, TX12, 12), rfl, by decide, aW_t 361 (by decide +kernel) (by decide +kernel)⟩
theorem aLT_62 : aLok (10, 63, 10, 8) := ⟨(RX12, TX12, 12), rfl, by decide, aW_t 362 (by decide +kernel) (by decide +kernel)⟩
theorem aLT_63 : aLok (10, 70, 10, 9) := ⟨(RX12, TX12, 12), rfl, by decide, aW_t 363 (by decide +kernel) (by decide +kernel)⟩
theorem aLT_64 : aLok (10, 74, 10, 10) := ⟨(RX12, TX12, 12), rfl, by decide, aW_t 364 (by decide +kernel) (by decide +kernel)⟩
theorem aLT_65 : aLok (10, 78, 10, 11) := ⟨(RX12, TX12, 12), rfl, by decide, aW_t 365 (by decide +kernel) (by decide +kernel)⟩
theorem aLT_66 : aLok (11, 7, 11, 2) := ⟨(RX13, TX13, 63), rfl, by decide, aW_t 1258 (by decide +kernel) (by decide +kernel)⟩
theorem aLT_67 : aLok (11, 13, 11, 10) := ⟨(RX13, TX13, 63), rfl, by decide, aW_t 1266 (by decide +kernel) (by decide +kernel)⟩
theorem aLT_68 : aLok (11, 16, 11, 11) := ⟨(RX13, TX13, 63), rfl, by decide, aW_t 1267 (by decide +kernel) (by decide +kernel)⟩
theorem aLT_69 : aLok (11, 20, 11, 12) := ⟨(RX13, TX13, 63), rfl, by decide, aW_t 1268 (by decide +kernel) (by decide +kernel)⟩
theorem aLT_70 : aLok (11, 23, 11, 13) := ⟨(RX13, TX13, 63), rfl, by decide, aW_t 1269 (by decide +kernel) (by decide +kernel)⟩
theorem aLT_71 : aLok (11, 26, 11, 14) := ⟨(RX13, TX13, 63), rfl, by decide, aW_t 1270 (by decide +kernel) (by decide +kernel)⟩
theorem aLT_72 : aLok (11, 29, 11, 15) := ⟨(RX13, TX13, 63), rfl, by decide, aW_t 1271 (by decide +kernel) (by decide +kernel)⟩
theorem aLT_73 : aLok (11, 32, 11, 16) := ⟨(RX13, TX13, 63), rfl, by decide, aW_t 1272 (by decide +kernel) (by decide +kernel)⟩
theorem aLT_74 : aLok (11, 35, 11, 17) := ⟨(RX13, TX13, 63), rfl, by decide, aW_t 1273 (by decide +kernel) (by decide +kernel)⟩
theorem aLT_75 : aLok (11, 38, 11, 18) := ⟨(RX13, TX13, 63), rfl, by decide, aW_t 1274 (by decide +kernel) (by decide +kernel)⟩
theorem aLT_76 : aLok (11, 41, 11, 19) := ⟨(RX13, TX13, 63), rfl, by decide, aW_t 1275 (by decide +kernel) (by decide +kernel)⟩
theorem aLT_77 : aLok (11, 44, 11, 20) := ⟨(RX13, TX13, 63), rfl, by decide, aW_t 1276 (by decide +kernel) (by decide +kernel)⟩
theorem aLT_78 : aLok (11, 47, 11, 21) := ⟨(RX13, TX13, 63), rfl, by decide, aW_t 1277 (by decide +kernel) (by decide +kernel)⟩
theorem aLT_79 : aLok (11, 50, 11, 22) := ⟨(RX13, TX13, 63), rfl, by decide, aW_t 1278 (by decide +kernel) (by decide +kernel)⟩
theorem aLT_80 : aLok (11, 53, 11, 26) := ⟨(RX13, TX13, 63), rfl, by decide, aW_t 1282 (by decide +kernel) (by decide +kernel)⟩
theorem aLT_81 : aLok (11, 56, 11, 27) := ⟨(RX13, TX13, 63), rfl, by decide, aW_t 1283 (by decide +kernel) (by decide +kernel)⟩
theorem aLT_82 : aLok (11, 60, 11, 28) := ⟨(RX13, TX13, 63), rfl, by decide, aW_t 1284 (by decide +kernel) (by decide +kernel)⟩
theorem aLT_83 : aLok (11, 63, 11, 29) := ⟨(RX13, TX13, 63), rfl, by decide, aW_t 1285 (by decide +kernel) (by decide +kernel)⟩
theorem aLT_84 : aLok (11, 66, 11, 30) := ⟨(RX13, TX13, 63), rfl, by decide, aW_t 1286 (by decide +kernel) (by decide +kernel)⟩
theorem aLT_85 : aLok (11, 69, 11, 31) := ⟨(RX13, TX13, 63), rfl, by decide, aW_t 1287 (by decide +kernel) (by decide +kernel)⟩
theorem aLT_86 : aLok (11, 72, 11, 32) := ⟨(RX13, TX13, 63), rfl, by decide, aW_t 1288 (by decide +kernel) (by decide +kernel)⟩
theorem aLT_87 : aLok (11, 75, 11, 33) := ⟨(RX13, TX13, 63), rfl, by decide, aW_t 1289 (by decide +kernel) (by decide +kernel)⟩
theorem aLT_88 : aLok (11, 78, 11, 34) := ⟨(RX13, TX13, 63), rfl, by decide, aW_t 1290 (by decide +kernel) (by decide +kernel)⟩
theorem aLT_89 : aLok (11, 81, 11, 35) := ⟨(RX13, TX13, 63), rfl, by decide, aW_t 1291 (by decide +kernel) (by decide +kernel)⟩
theorem aLT_90 : aLok (11, 84, 11, 36) := ⟨(RX13, TX13, 63), rfl, by decide, aW_t 1292 (by decide +kernel) (by decide +kernel)⟩
theorem aLT_91 : aLok (11, 87, 11, 37) := ⟨(RX13, TX13, 63), rfl, by decide, aW_t 1293 (by decide +kernel) (by decide +kernel)⟩
theorem aLT_92 : aLok (11, 90, 11, 40) := ⟨(RX13, TX13, 63), rfl, by decide, aW_t 1296 (by decide +kernel) (by decide +kernel)⟩
theorem aLT_93 : aLok (11, 93, 11, 41) := ⟨(RX13, TX13, 63), rfl, by decide, aW_t 1297 (by decide +kernel) (by decide +kernel)⟩
theorem aLT_94 : aLok (11, 96, 11, 42) := ⟨(RX13, TX13, 63), rfl, by decide, aW_t 1298 (by decide +kernel) (by decide +kernel)⟩
theorem aLT_95 : aLok (11, 99, 11, 43) := ⟨(RX13, TX13, 63), rfl, by decide, aW_t 1299 (by decide +kernel) (by decide +kernel)⟩
theorem aLT_96 : aLok (11, 102, 11, 44) := ⟨(RX13, TX13, 63), rfl, by decide, aW_t 1300 (by decide +kernel) (by decide +kernel)⟩
theorem aLT_97 : aLok (11, 105, 11, 45) := ⟨(RX13, TX13, 63), rfl, by decide, aW_t 1301 (by decide +kernel) (by decide +kernel)⟩
theorem aLT_98 : aLok (11, 108, 11, 46) := ⟨(RX13, TX13, 63), rfl, by decide, aW_t 1302 (by decide +kernel) (by decide +kernel)⟩
theorem aLT_99 : aLok (11, 111, 11, 47) := ⟨(RX13, TX13, 63), rfl, by decide, aW_t 1303 (by decide +kernel) (by decide +kernel)⟩
theorem aLT_100 : aLok (11, 114, 11, 48) := ⟨(RX13, TX13, 63), rfl, by decide, aW_t 1304 (by decide +kernel) (by decide +kernel)⟩
theorem aLT_101 : aLok (11, 117, 11, 49) := ⟨(RX13, TX13, 63), rfl, by decide, aW_t 1305 (by decide +kernel) (by decide +kernel)⟩
theorem aLT_102 : aLok (11, 120, 11, 54) := ⟨(RX13, TX13, 63), rfl, by decide, aW_t 1310 (by decide +kernel) (by decide +kernel)⟩
theorem aLT_103 : aLok (11, 123, 11, 55) := ⟨(RX13, TX13, 63), rfl, by decide, aW_t 1311 (by decide +kernel) (by decide +kernel)⟩
theorem aLT_104 : aLok (11, 126, 11, 60) := ⟨(RX13, TX13, 63), rfl, by decide, aW_t 1316 (by decide +kernel) (by decide +kernel)⟩
theorem aLT_105 : aLok (11, 129, 11, 61) := ⟨(RX13, TX13, 63), rfl, by decide, aW_t 1317 (by decide +kernel) (by decide +kernel)⟩
theorem aLT_106 : aLok (11, 135, 11, 0) := ⟨(RX13, TX13, 63), rfl, by decide, aW_t 1256 (by decide +kernel) (by decide +kernel)⟩
theorem aLT_107 : aLok (11, 141, 11, 1) := ⟨(RX13, TX13, 63), rfl, by decide, aW_t 1257 (by decide +kernel) (by decide +kernel)⟩
theorem aLT_108 : aLok (11, 144, 11, 3) := ⟨(RX13, TX13, 63), rfl, by decide, aW_t 1259 (by decide +kernel) (by decide +kernel)⟩
theorem aLT_109 : aLok (11, 147, 11, 4) := ⟨(RX13, TX13, 63), rfl, by decide, aW_t 1260 (by decide +kernel) (by decide +kernel)⟩
theorem aLT_110 : aLok (11, 150, 11, 5) := ⟨(RX13, TX13, 63), rfl, by decide, aW_t 1261 (by decide +kernel) (by decide +kernel)⟩
theorem aLT_111 : aLok (11, 153, 11, 7) := ⟨(RX13, TX13, 63), rfl, by decide, aW_t 1263 (by decide +kernel) (by decide +kernel)⟩
theorem aLT_112 : aLok (11, 157, 11, 8) := ⟨(RX13, TX13, 63), rfl, by decide, aW_t 1264 (by decide +kernel) (by decide +kernel)⟩
theorem aLT_113 : aLok (11, 160, 11, 6) := ⟨(RX13, TX13, 63), rfl, by decide, aW_t 1262 (by decide +kernel) (by decide +kernel)⟩
theorem aLT_114 : aLok (11, 171, 11, 9) := ⟨(RX13, TX13, 63), rfl, by decide, aW_t 1265 (by decide +kernel) (by decide +kernel)⟩
theorem aLT_115 : aLok (11, 174, 11, 23) := ⟨(RX13, TX13, 63), rfl, by decide, aW_t 1279 (by decide +kernel) (by decide +kernel)⟩
theorem aLT_116 : aLok (11, 177, 11, 24) := ⟨(RX13, TX13, 63), rfl, by decide, aW_t 1280 (by decide +kernel) (by decide +kernel)⟩
theorem aLT_117 : aLok (11, 273, 11, 38) := ⟨(RX13, TX13, 63), rfl, by decide, aW_t 1294 (by decide +kernel) (by decide +kernel)⟩
theorem aLT_118 : aLok (11, 290, 11, 39) := ⟨(RX13, TX13, 63), rfl, by decide, aW_t 1295 (by decide +kernel) (by decide +kernel)⟩
theorem aLT_119 : aLok (11, 305, 11, 25) := ⟨(RX13, TX13, 63), rfl, by decide, aW_t 1281 (by decide +kernel) (by decide +kernel)⟩
theorem aLT_120 : aLok (11, 343, 11, 50) := ⟨(RX13, TX13, 63), rfl, by decide, aW_t 1306 (by decide +kernel) (by decide +kernel)⟩
theorem aLT_121 : aLok (11, 391, 11, 51) := ⟨(RX13, TX13, 63), rfl, by decide, aW_t 1307 (by decide +kernel) (by decide +kernel)⟩
theorem aLT_122 : aLok (11, 430, 11, 52) := ⟨(RX13, TX13, 63), rfl, by decide, aW_t 1308 (by decide +kernel) (by decide +kernel)⟩
theorem aLT_123 : aLok (11, 433, 11, 53) := ⟨(RX13, TX13, 63), rfl, by decide, aW_t 1309 (by decide +kernel) (by decide +kernel)⟩
theorem aLT_124 : aLok (11, 450, 11, 57) := ⟨(RX13, TX13, 63), rfl, by decide, aW_t 1313 (by decide +kernel) (by decide +kernel)⟩
theorem aLT_125 : aLok (11, 453, 11, 56) := ⟨(RX13, TX13, 63), rfl, by decide, aW_t 1312 (by decide +kernel) (by decide +kernel)⟩
theorem aLT_126 : aLok (11, 456, 11, 58) := ⟨(RX13, TX13, 63), rfl, by decide, aW_t 1314 (by decide +kernel) (by decide +kernel)⟩
theorem aLT_127 : aLok (11, 459, 11, 59) := ⟨(RX13, TX13, 63), rfl, by decide, aW_t 1315 (by decide +kernel) (by decide +kernel)⟩
theorem aLT_128 : aLok (11, 506, 11, 62) := ⟨(RX13, TX13, 63), rfl, by decide, aW_t 1318 (by decide +kernel) (by decide +kernel)⟩
def aLT : List aQ := [(0, 9, 0, 1), (0, 13, 0, 2), (0, 20, 0, 3), (0, 23, 0, 4), (0, 27, 0, 5), (1, 9, 1, 0), (2, 11, 2, 0), (2, 18, 2, 1), (2, 22, 2, 2), (3, 9, 3, 0), (3, 15, 3, 1), (3, 18, 3, 2), (3, 21, 3, 3), (3, 24, 3, 4), (3, 28, 3, 5), (3, 88, 3, 6), (4, 12, 4, 0), (4, 18, 4, 1), (4, 26, 4, 2), (4, 30, 4, 3), (4, 33, 4, 4), (5, 9, 5, 2), (5, 15, 5, 0), (5, 24, 5, 1), (5, 222, 5, 3), (6, 9, 6, 1), (6, 15, 6, 2), (6, 19, 6, 4), (6, 22, 6, 5), (6, 25, 6, 6), (6, 31, 6, 8), (6, 34, 6, 9), (6, 37, 6, 10), (6, 45, 6, 14), (6, 49, 6, 15), (6, 52, 6, 12), (6, 56, 6, 0), (6, 59, 6, 3), (6, 62, 6, 11), (7, 9, 7, 0), (8, 9, 8, 0), (8, 15, 8, 1), (8, 18, 8, 2), (8, 30, 8, 3), (8, 34, 8, 4), (8, 37, 8, 5), (8, 40, 8, 6), (9, 9, 9, 0), (9, 21, 9, 4), (9, 24, 9, 1), (9, 28, 9, 2), (9, 37, 9, 3), (9, 60, 9, 6), (9, 66, 9, 5), (10, 12, 10, 0), (10, 21, 10, 1), (10, 28, 10, 2), (10, 32, 10, 3), (10, 38, 10, 4), (10, 42, 10, 5), (10, 49, 10, 6), (10, 56, 10, 7), (10, 63, 10, 8), (10, 70, 10, 9), (10, 74, 10, 10), (10, 78, 10, 11), (11, 7, 11, 2), (11, 13, 11, 10), (11, 16, 11, 11), (11, 20, 11, 12), (11, 23, 11, 13), (11, 26, 11, 14), (11, 29, 11, 15), (11, 32, 11, 16), (11, 35, 11, 17), (11, 38, 11, 18), (11, 41, 11, 19), (11, 44, 11, 20), (11, 47, 11, 21), (11, 50, 11, 22), (11, 53, 11, 26), (11, 56, 11, 27), (11, 60, 11, 28), (11, 63, 11, 29), (11, 66, 11, 30), (11, 69, 11, 31), (11, 72, 11, 32), (11, 75, 11, 33), (11, 78, 11, 34), (11, 81, 11, 35), (11, 84, 11, 36), (11, 87, 11, 37), (11, 90, 11, 40), (11, 93, 11, 41), (11, 96, 11, 42), (11, 99, 11, 43), (11, 102, 11, 44), (11, 105, 11, 45), (11, 108, 11, 46), (11, 111, 11, 47), (11, 114, 11, 48), (11, 117, 11, 49), (11, 120, 11, 54), (11, 123, 11, 55), (11, 126, 11, 60), (11, 129, 11, 61), (11, 135, 11, 0), (11, 141, 11, 1), (11, 144, 11, 3), (11, 147, 11, 4), (11, 150, 11, 5), (11, 153, 11, 7), (11, 157, 11, 8), (11, 160, 11, 6), (11, 171, 11, 9), (11, 174, 11, 23), (11, 177, 11, 24), (11, 273, 11, 38), (11, 290, 11, 39), (11, 305, 11, 25), (11, 343, 11, 50), (11, 391, 11, 51), (11, 430, 11, 52), (11, 433, 11, 53), (11, 450, 11, 57), (11, 453, 11, 56), (11, 456, 11, 58), (11, 459, 11, 59), (11, 506, 11, 62)]
set_option maxRecDepth 100000 in
theorem aLT_ok : ∀ q ∈ aLT, aLok q := List.forall_mem_cons.mpr ⟨aLT_0, List.forall_mem_cons.mpr ⟨aLT_1, List.forall_mem_cons.mpr ⟨aLT_2, List.forall_mem_cons.mpr ⟨aLT_3, List.forall_mem_cons.mpr ⟨aLT_4, List.forall_mem_cons.mpr ⟨aLT_5, List.forall_mem_cons.mpr ⟨aLT_6, List.forall_mem_cons.mpr ⟨aLT_7, List.forall_mem_cons.mpr ⟨aLT_8, List.forall_mem_cons.mpr ⟨aLT_9, List.forall_mem_cons.mpr ⟨aLT_10, List.forall_mem_cons.mpr ⟨aLT_11, List.forall_mem_cons.mpr ⟨aLT_12, List.forall_mem_cons.mpr ⟨aLT_13, List.forall_mem_cons.mpr ⟨aLT_14, List.forall_mem_cons.mpr ⟨aLT_15, List.forall_mem_cons.mpr ⟨aLT_16, List.forall_mem_cons.mpr ⟨aLT_17, List.forall_mem_cons.mpr ⟨aLT_18, List.forall_mem_cons.mpr ⟨aLT_19, List.forall_mem_cons.mpr ⟨aLT_20, List.forall_mem_cons.mpr ⟨aLT_21, List.forall_mem_cons.mpr ⟨aLT_22, List.forall_mem_cons.mpr ⟨aLT_23, List.forall_mem_cons.mpr ⟨aLT_24, List.forall_mem_cons.mpr ⟨aLT_25, List.forall_mem_cons.mpr ⟨aLT_26, List.forall_mem_cons.mpr ⟨aLT_27, List.forall_mem_cons.mpr ⟨aLT_28, List.forall_mem_cons.mpr ⟨aLT_29, List.forall_mem_cons.mpr ⟨aLT_30, List.forall_mem_cons.mpr ⟨aLT_31, List.forall_mem_cons.mpr ⟨aLT_32, List.forall_mem_cons.mpr ⟨aLT_33, List.forall_mem_cons.mpr ⟨aLT_34, List.forall_mem_cons.mpr ⟨aLT_35, List.forall_mem_cons.mpr ⟨aLT_36, List.forall_mem_cons.mpr ⟨aLT_37, List.forall_mem_cons.mpr ⟨aLT_38, List.forall_mem_cons.mpr ⟨aLT_39, List.forall_mem_cons.mpr ⟨aLT_40, List.forall_mem_cons.mpr ⟨aLT_41, List.forall_mem_cons.mpr ⟨aLT_42, List.forall_mem_cons.mpr ⟨aLT_43, List.forall_mem_cons.mpr ⟨aLT_44, List.forall_mem_cons.mpr ⟨aLT_45, List.forall_mem_cons.mpr ⟨aLT_46, List.forall_mem_cons.mpr ⟨aLT_47, List.forall_mem_cons.mpr ⟨aLT_48, List.forall_mem_cons.mpr ⟨aLT_49, List.forall_mem_cons.mpr ⟨aLT_50, List.forall_mem_cons.mpr ⟨aLT_51, List.forall_mem_cons.mpr ⟨aLT_52, List.forall_mem_cons.mpr ⟨aLT_53, List.forall_mem_cons.mpr ⟨aLT_54, List.forall_mem_cons.mpr ⟨aLT_55, List.forall_mem_cons.mpr ⟨aLT_56, List.forall_mem_cons.mpr ⟨aLT_57, List.forall_mem_cons.mpr ⟨aLT_58, List.forall_mem_cons.mpr ⟨aLT_59, List.forall_mem_cons.mpr ⟨aLT_60, List.forall_mem_cons.mpr ⟨aLT_61, List.forall_mem_cons.mpr ⟨aLT_62, List.forall_mem_cons.mpr ⟨aLT_63, List.forall_mem_cons.mpr ⟨aLT_64, List.forall_mem_cons.mpr ⟨aLT_65, List.forall_mem_cons.mpr ⟨aLT_66, List.forall_mem_cons.mpr ⟨aLT_67, List.forall_mem_cons.mpr ⟨aLT_68, List.forall_mem_cons.mpr ⟨aLT_69, List.forall_mem_cons.mpr ⟨aLT_70, List.forall_mem_cons.mpr ⟨aLT_71, List.forall_mem_cons.mpr ⟨aLT_72, List.forall_mem_cons.mpr ⟨aLT_73, List.forall_mem_cons.mpr ⟨aLT_74, List.forall_mem_cons.mpr ⟨aLT_75, List.forall_mem_cons.mpr ⟨aLT_76, List.forall_mem_cons.mpr ⟨aLT_77, List.forall_mem_cons.mpr ⟨aLT_78, List.forall_mem_cons.mpr ⟨aLT_79, List.forall_mem_cons.mpr ⟨aLT_80, List.forall_mem_cons.mpr ⟨aLT_81, List.forall_mem_cons.mpr ⟨aLT_82, List.forall_mem_cons.mpr ⟨aLT_83, List.forall_mem_cons.mpr ⟨aLT_84, List.forall_mem_cons.mpr ⟨aLT_85, List.forall_mem_cons.mpr ⟨aLT_86, List.forall_mem_cons.mpr ⟨aLT_87, List.forall_mem_cons.mpr ⟨aLT_88, List.forall_mem_cons.mpr ⟨aLT_89, List.forall_mem_cons.mpr ⟨aLT_90, List.forall_mem_cons.mpr ⟨aLT_91, List.forall_mem_cons.mpr ⟨aLT_92, List.forall_mem_cons.mpr ⟨aLT_93, List.forall_mem_cons.mpr ⟨aLT_94, List.forall_mem_cons.mpr ⟨aLT_95, List.forall_mem_cons.mpr ⟨aLT_96, List.forall_mem_cons.mpr ⟨aLT_97, List.forall_mem_cons.mpr ⟨aLT_98, List.forall_mem_cons.mpr ⟨aLT_99, List.forall_mem_cons.mpr ⟨aLT_100, List.forall_mem_cons.mpr ⟨aLT_101, List.forall_mem_cons.mpr ⟨aLT_102, List.forall_mem_cons.mpr ⟨aLT_103, List.forall_mem_cons.mpr ⟨aLT_104, List.forall_mem_cons.mpr ⟨aLT_105, List.forall_mem_cons.mpr ⟨aLT_106, List.forall_mem_cons.mpr ⟨aLT_107, List.forall_mem_cons.mpr ⟨aLT_108, List.forall_mem_cons.mpr ⟨aLT_109, List.forall_mem_cons.mpr ⟨aLT_110, List.forall_mem_cons.mpr ⟨aLT_111, List.forall_mem_cons.mpr ⟨aLT_112, List.forall_mem_cons.mpr ⟨aLT_113, List.forall_mem_cons.mpr ⟨aLT_114, List.forall_mem_cons.mpr ⟨aLT_115, List.forall_mem_cons.mpr ⟨aLT_116, List.forall_mem_cons.mpr ⟨aLT_117, List.forall_mem_cons.mpr ⟨aLT_118, List.forall_mem_cons.mpr ⟨aLT_119, List.forall_mem_cons.mpr ⟨aLT_120, List.forall_mem_cons.mpr ⟨aLT_121, List.forall_mem_cons.mpr ⟨aLT_122, List.forall_mem_cons.mpr ⟨aLT_123, List.forall_mem_cons.mpr ⟨aLT_124, List.forall_mem_cons.mpr ⟨aLT_125, List.forall_mem_cons.mpr ⟨aLT_126, List.forall_mem_cons.mpr ⟨aLT_127, List.forall_mem_cons.mpr ⟨aLT_128, fun _ h => absurd h List.not_mem_nil⟩⟩⟩⟩⟩⟩⟩⟩⟩⟩⟩⟩⟩⟩⟩⟩⟩⟩⟩⟩⟩⟩⟩⟩⟩⟩⟩⟩⟩⟩⟩⟩⟩⟩⟩⟩⟩⟩⟩⟩⟩⟩⟩⟩⟩⟩⟩⟩⟩⟩⟩⟩⟩⟩⟩⟩⟩⟩⟩⟩⟩⟩⟩⟩⟩⟩⟩⟩⟩⟩⟩⟩⟩⟩⟩⟩⟩⟩⟩⟩⟩⟩⟩⟩⟩⟩⟩⟩⟩⟩⟩⟩⟩⟩⟩⟩⟩⟩⟩⟩⟩⟩⟩⟩⟩⟩⟩⟩⟩⟩⟩⟩⟩⟩⟩⟩⟩⟩⟩⟩⟩⟩⟩⟩⟩⟩⟩⟩⟩
theorem aPT_0 : aPok (0, 23, 0, 4) := ⟨(RX1, TX1, 6), rfl, by decide, by decide +kernel, aW_t 125 (by decide +kernel) (by decide +kernel)⟩
theorem aPT_1 : aPok (0, 27, 0, 5) := ⟨(RX1, TX1, 6), rfl, by decide, by decide +kernel, aW_t 126 (by decide +kernel) (by decide +kernel)⟩
theorem aPT_2 : aPok (2, 18, 2, 1) := ⟨(RX3, TX3, 3), rfl, by decide, by decide +kernel, aW_t 291 (by decide +kernel) (by decide +kernel)⟩
theorem aPT_3 : aPok (2, 22, 2, 2) := ⟨(RX3, TX3, 3), rfl, by decide, by decide +kernel, aW_t 292 (by decide +kernel) (by decide +kernel)⟩
theorem aPT_4 : aPok (3, 88, 3, 6) := ⟨(RX4, TX4, 7), rfl, by decide, by decide +kernel, aW_t 316 (by decide +kernel) (by decide +kernel)⟩
theorem aPT_5 : aPok (4, 26, 4, 2) := ⟨(RX5, TX5, 6), rfl, by decide, by decide +kernel, aW_t 260 (by decide +kernel) (by decide +kernel)⟩
theorem aPT_6 : aPok (4, 30, 4, 3) := ⟨(RX5, TX5, 6), rfl, by decide, by decide +kernel, aW_t 262 (by decide +kernel) (by decide +kernel)⟩
theorem aPT_7 : aPok (4, 33, 4, 4) := ⟨(RX5, TX5, 6), rfl, by decide, by decide +kernel, aW_t 264 (by decide +kernel) (by decide +kernel)⟩
theorem aPT_8 : aPok (5, 222, 5, 3) := ⟨(RX6, TX6, 4), rfl, by decide, by decide +kernel, aW_t 98 (by decide +kernel) (by decide +kernel)⟩
theorem aPT_9 : aPok (6, 52, 6, 12) := ⟨(RX7, TX7, 16), rfl, by decide, by decide +kernel, aW_t 171 (by decide +kernel) (by decide +kernel)⟩
theorem aPT_10 : aPok (6, 56, 6, 0) := ⟨(RX7, TX7, 16), rfl, by decide, by decide +kernel, aW_t 142 (by decide +kernel) (by decide +kernel)⟩
theorem aPT_11 : aPok (6, 59, 6, 3) := ⟨(RX7, TX7, 16), rfl, by decide, by decide +kernel, aW_t 150 (by decide +kernel) (by decide +kernel)⟩
theorem aPT_12 : aPok (6, 62, 6, 11) := ⟨(RX7, TX7, 16), rfl, by decide, by decide +kernel, aW_t 169 (by decide +kernel) (by decide +kernel)⟩
theorem aPT_13 : aPok (6, 65, 6, 13) := ⟨(RX7, TX7, 16), rfl, by decide, by decide +kernel, aW_t 177 (by decide +kernel) (by decide +kernel)⟩
theorem aPT_14 : aPok (8, 30, 8, 3) := ⟨(RX10, TX10, 7), rfl, by decide, by decide +kernel, aW_t 232 (by decide +kernel) (by decide +kernel)⟩
theorem aPT_15 : aPok (8, 34, 8, 4) := ⟨(RX10, TX10, 7), rfl, by decide, by decide +kernel, aW_t 235 (by decide +kernel) (by decide +kernel)⟩
theorem aPT_16 : aPok (8, 37, 8, 5) := ⟨(RX10, TX10, 7), rfl, by decide, by decide +kernel, aW_t 238 (by decide +kernel) (by decide +kernel)⟩
theorem aPT_17 : aPok (8, 40, 8, 6) := ⟨(RX10, TX10, 7), rfl, by decide, by decide +kernel, aW_t 240 (by decide +kernel) (by decide +kernel)⟩
theorem aPT_18 : aPok (9, 21, 9, 4) := ⟨(RX11, TX11, 8), rfl, by decide, by decide +kernel, aW_t 48 (by decide +kernel) (by decide +kernel)⟩
theorem aPT_19 : aPok (9, 24, 9, 1) := ⟨(RX11, TX11, 8), rfl, by decide, by decide +kernel, aW_t 45 (by decide +kernel) (by decide +kernel)⟩
theorem aPT_20 : aPok (9, 28, 9, 2) := ⟨(RX11, TX11, 8), rfl, by decide, by decide +kernel, aW_t 46 (by decide +kernel) (by decide +kernel)⟩
theorem aPT_21 : aPok (9, 31, 9, 7) := ⟨(RX11, TX11, 8), rfl, by decide, by decide +kernel, aW_t 57 (by decide +kernel) (by decide +kernel)⟩
theorem aPT_22 : aPok (9, 37, 9, 3) := ⟨(RX11, TX11, 8), rfl, by decide, by decide +kernel, aW_t 47 (by decide +kernel) (by decide +kernel)⟩
theorem aPT_23 : aPok (9, 60, 9, 6) := ⟨(RX11, TX11, 8), rfl, by decide, by decide +kernel, aW_t 55 (by decide +kernel) (by decide +kernel)⟩
theorem aPT_24 : aPok (9, 66, 9, 5) := ⟨(RX11, TX11, 8), rfl, by decide, by decide +kernel, aW_t 53 (by decide +kernel) (by decide +kernel)⟩
theorem aPT_25 : aPok (10, 28, 10, 2) := ⟨(RX12, TX12, 12), rfl, by decide, by decide +kernel, aW_t 356 (by decide +kernel) (by decide +kernel)⟩
theorem aPT_26 : aPok (10, 32, 10, 3) := ⟨(RX12, TX12, 12), rfl, by decide, by decide +kernel, aW_t 357 (by decide +kernel) (by decide +kernel)⟩
theorem aPT_27 : aPok (11, 135, 11, 0) := ⟨(RX13, TX13, 63), rfl, by decide, by decide +kernel, aW_t 1256 (by decide +kernel) (by decide +kernel)⟩
theorem aPT_28 : aPok (11, 141, 11, 1) := ⟨(RX13, TX13, 63), rfl, by decide, by decide +kernel, aW_t 1257 (by decide +kernel) (by decide +kernel)⟩
theorem aPT_29 : aPok (11, 144, 11, 3) := ⟨(RX13, TX13, 63), rfl, by decide, by decide +kernel, aW_t 1259 (by decide +kernel) (by decide +kernel)⟩
theorem aPT_30 : aPok (11, 147, 11, 4) := ⟨(RX13, TX13, 63), rfl, by decide, by decide +kernel, aW_t 1260 (by decide +kernel) (by decide +kernel)⟩
theorem aPT_31 : aPok (11, 150, 11, 5) := ⟨(RX13, TX13, 63), rfl, by decide, by decide +kernel, aW_t 1261 (by decide +kernel) (by decide +kernel)⟩
theorem aPT_32 : aPok (11, 153, 11, 7) := ⟨(RX13, TX13, 63), rfl, by decide, by decide +kernel, aW_t 1263 (by decide +kernel) (by decide +kernel)⟩
theorem aPT_33 : aPok (11, 157, 11, 8) := ⟨(RX13, TX13, 63), rfl, by decide, by decide +kernel, aW_t 1264 (by decide +kernel) (by decide +kernel)⟩
theorem aPT_34 : aPok (11, 160, 11, 6) := ⟨(RX13, TX13, 63), rfl, by decide, by decide +kernel, aW_t 1262 (by decide +kernel) (by decide +kernel)⟩
theorem aPT_35 : aPok (11, 171, 11, 9) := ⟨(RX13, TX13, 63), rfl, by decide, by decide +kernel, aW_t 1265 (by decide +kernel) (by decide +kernel)⟩
theorem aPT_36 : aPok (11, 174, 11, 23) := ⟨(RX13, TX13, 63), rfl, by decide, by decide +kernel, aW_t 1279 (by decide +kernel) (by decide +kernel)⟩
theorem aPT_37 : aPok (11, 177, 11, 24) := ⟨(RX13, TX13, 63), rfl, by decide, by decide +kernel, aW_t 1280 (by decide +kernel) (by decide +kernel)⟩
theorem aPT_38 : aPok (11, 273, 11, 38) := ⟨(RX13, TX13, 63), rfl, by decide, by decide +kernel, aW_t 1294 (by decide +kernel) (by decide +kernel)⟩
theorem aPT_39 : aPok (11, 290, 11, 39) := ⟨(RX13, TX13, 63), rfl, by decide, by decide +kernel, aW_t 1295 (by decide +kernel) (by decide +kernel)⟩
theorem aPT_40 : aPok (11, 305, 11, 25) := ⟨(RX13, TX13, 63), rfl, by decide, by decide +kernel, aW_t 1281 (by decide +kernel) (by decide +kernel)⟩
theorem aPT_41 : aPok (11, 343, 11, 50) := ⟨(RX13, TX13, 63), rfl, by decide, by decide +kernel, aW_t 1306 (by decide +kernel) (by decide +kernel)⟩
theorem aPT_42 : aPok (11, 391, 11, 51) := ⟨(RX13, TX13, 63), rfl, by decide, by decide +kernel, aW_t 1307 (by decide +kernel) (by decide +kernel)⟩
theorem aPT_43 : aPok (11, 430, 11, 52) := ⟨(RX13, TX13, 63), rfl, by decide, by decide +kernel, aW_t 1308 (by decide +kernel) (by decide +kernel)⟩
theorem aPT_44 : aPok (11, 433, 11, 53) := ⟨(RX13, TX13, 63), rfl, by decide, by decide +kernel, aW_t 1309 (by decide +kernel) (by decide +kernel)⟩
theorem aPT_45 : aPok (11, 450, 11, 57) := ⟨(RX13, TX13, 63), rfl, by decide, by decide +kernel, aW_t 1313 (by decide +kernel) (by decide +kernel)⟩
theorem aPT_46 : aPok (11, 453, 11, 56) := ⟨(RX13, TX13, 63), rfl, by decide, by decide +kernel, aW_t 1312 (by decide +kernel) (by decide +kernel)⟩
theorem aPT_47 : aPok (11, 456, 11, 58) := ⟨(RX13, TX13, 63), rfl, by decide, by decide +kernel, aW_t 1314 (by decide +kernel) (by decide +kernel)⟩
theorem aPT_48 : aPok (11, 459, 11, 59) := ⟨(RX13, TX13, 63), rfl, by decide, by decide +kernel, aW_t 1315 (by decide +kernel) (by decide +kernel)⟩
theorem aPT_49 : aPok (11, 506, 11, 62) := ⟨(RX13, TX13, 63), rfl, by decide, by decide +kernel, aW_t 1318 (by decide +kernel) (by decide +kernel)⟩
def aPT : List aQ := [(0, 23, 0, 4), (0, 27, 0, 5), (2, 18, 2, 1), (2, 22, 2, 2), (3, 88, 3, 6), (4, 26, 4, 2), (4, 30, 4, 3), (4, 33, 4, 4), (5, 222, 5, 3), (6, 52, 6, 12), (6, 56, 6, 0), (6, 59, 6, 3), (6, 62, 6, 11), (6, 65, 6, 13), (8, 30, 8, 3), (8, 34, 8, 4), (8, 37, 8, 5), (8, 40, 8, 6), (9, 21, 9, 4), (9, 24, 9, 1), (9, 28, 9, 2), (9, 31, 9, 7), (9, 37, 9, 3), (9, 60, 9, 6), (9, 66, 9, 5), (10, 28, 10, 2), (10, 32, 10, 3), (11, 135, 11, 0), (11, 141, 11, 1), (11, 144, 11, 3), (11, 147, 11, 4), (11, 150, 11, 5), (11, 153, 11, 7), (11, 157, 11, 8), (11, 160, 11, 6), (11, 171, 11, 9), (11, 174, 11, 23), (11, 177, 11, 24), (11, 273, 11, 38), (11, 290, 11, 39), (11, 305, 11, 25), (11, 343, 11, 50), (11, 391, 11, 51), (11, 430, 11, 52), (11, 433, 11, 53), (11, 450, 11, 57), (11, 453, 11, 56), (11, 456, 11, 58), (11, 459, 11, 59), (11, 506, 11, 62)]
set_option maxRecDepth 100000 in
theorem aPT_ok : ∀ q ∈ aPT, aPok q := List.forall_mem_cons.mpr ⟨aPT_0, List.forall_mem_cons.mpr ⟨aPT_1, List.forall_mem_cons.mpr ⟨aPT_2, List.forall_mem_cons.mpr ⟨aPT_3, List.forall_mem_cons.mpr ⟨aPT_4, List.forall_mem_cons.mpr ⟨aPT_5, List.forall_mem_cons.mpr ⟨aPT_6, List.forall_mem_cons.mpr ⟨aPT_7, List.forall_mem_cons.mpr ⟨aPT_8, List.forall_mem_cons.mpr ⟨aPT_9, List.forall_mem_cons.mpr ⟨aPT_10, List.forall_mem_cons.mpr ⟨aPT_11, List.forall_mem_cons.mpr ⟨aPT_12, List.forall_mem_cons.mpr ⟨aPT_13, List.forall_mem_cons.mpr ⟨aPT_14, List.forall_mem_cons.mpr ⟨aPT_15, List.forall_mem_cons.mpr ⟨aPT_16, List.forall_mem_cons.mpr ⟨aPT_17, List.forall_mem_cons.mpr ⟨aPT_18, List.forall_mem_cons.mpr ⟨aPT_19, List.forall_mem_cons.mpr ⟨aPT_20, List.forall_mem_cons.mpr ⟨aPT_21, List.forall_mem_cons.mpr ⟨aPT_22, List.forall_mem_cons.mpr ⟨aPT_23, List.forall_mem_cons.mpr ⟨aPT_24, List.forall_mem_cons.mpr ⟨aPT_25, List.forall_mem_cons.mpr ⟨aPT_26, List.forall_mem_cons.mpr ⟨aPT_27, List.forall_mem_cons.mpr ⟨aPT_28, List.forall_mem_cons.mpr ⟨aPT_29, List.forall_mem_cons.mpr ⟨aPT_30, List.forall_mem_cons.mpr ⟨aPT_31, List.forall_mem_cons.mpr ⟨aPT_32, List.forall_mem_cons.mpr ⟨aPT_33, List.forall_mem_cons.mpr ⟨aPT_34, List.forall_mem_cons.mpr ⟨aPT_35, List.forall_mem_cons.mpr ⟨aPT_36, List.forall_mem_cons.mpr ⟨aPT_37, List.forall_mem_cons.mpr ⟨aPT_38, List.forall_mem_cons.mpr ⟨aPT_39, List.forall_mem_cons.mpr ⟨aPT_40, List.forall_mem_cons.mpr ⟨aPT_41, List.forall_mem_cons.mpr ⟨aPT_42, List.forall_mem_cons.mpr ⟨aPT_43, List.forall_mem_cons.mpr ⟨aPT_44, List.forall_mem_cons.mpr ⟨aPT_45, List.forall_mem_cons.mpr ⟨aPT_46, List.forall_mem_cons.mpr ⟨aPT_47, List.forall_mem_cons.mpr ⟨aPT_48, List.forall_mem_cons.mpr ⟨aPT_49, fun _ h => absurd h List.not_mem_nil⟩⟩⟩⟩⟩⟩⟩⟩⟩⟩⟩⟩⟩⟩⟩⟩⟩⟩⟩⟩⟩⟩⟩⟩⟩⟩⟩⟩⟩⟩⟩⟩⟩⟩⟩⟩⟩⟩⟩⟩⟩⟩⟩⟩⟩⟩⟩⟩⟩⟩
theorem aLN_0 : aLNok (1, 67, 0, 0) := ⟨(RX1, TX1, 6), rfl, by decide, aN_t 121 (by decide +kernel) (by decide +kernel)⟩
theorem aLN_1 : aLNok (1, 75, 9, 4) := ⟨(RX11, TX11, 8), rfl, by decide, aN_t 50 (by decide +kernel) (by decide +kernel)⟩
theorem aLN_2 : aLNok (1, 91, 9, 5) := ⟨(RX11, TX11, 8), rfl, by decide, aN_t 52 (by decide +kernel) (by decide +kernel)⟩
theorem aLN_3 : aLNok (3, 45, 8, 3) := ⟨(RX10, TX10, 7), rfl, by decide, aN_t 233 (by decide +kernel) (by decide +kernel)⟩
theorem aLN_4 : aLNok (3, 55, 8, 4) := ⟨(RX10, TX10, 7), rfl, by decide, aN_t 236 (by decide +kernel) (by decide +kernel)⟩
theorem aLN_5 : aLNok (3, 69, 6, 12) := ⟨(RX7, TX7, 16), rfl, by decide, aN_t 173 (by decide +kernel) (by decide +kernel)⟩
theorem aLN_6 : aLNok (5, 53, 9, 4) := ⟨(RX11, TX11, 8), rfl, by decide, aN_t 49 (by decide +kernel) (by decide +kernel)⟩
theorem aLN_7 : aLNok (5, 76, 6, 14) := ⟨(RX7, TX7, 16), rfl, by decide, aN_t 180 (by decide +kernel) (by decide +kernel)⟩
theorem aLN_8 : aLNok (5, 84, 6, 15) := ⟨(RX7, TX7, 16), rfl, by decide, aN_t 182 (by decide +kernel) (by decide +kernel)⟩
theorem aLN_9 : aLNok (5, 97, 9, 7) := ⟨(RX11, TX11, 8), rfl, by decide, aN_t 56 (by decide +kernel) (by decide +kernel)⟩
theorem aLN_10 : aLNok (5, 101, 6, 0) := ⟨(RX7, TX7, 16), rfl, by decide, aN_t 143 (by decide +kernel) (by decide +kernel)⟩
theorem aLN_11 : aLNok (5, 110, 6, 2) := ⟨(RX7, TX7, 16), rfl, by decide, aN_t 149 (by decide +kernel) (by decide +kernel)⟩
theorem aLN_12 : aLNok (5, 114, 9, 6) := ⟨(RX11, TX11, 8), rfl, by decide, aN_t 54 (by decide +kernel) (by decide +kernel)⟩
theorem aLN_13 : aLNok (5, 121, 6, 1) := ⟨(RX7, TX7, 16), rfl, by decide, aN_t 147 (by decide +kernel) (by decide +kernel)⟩
theorem aLN_14 : aLNok (5, 124, 6, 3) := ⟨(RX7, TX7, 16), rfl, by decide, aN_t 151 (by decide +kernel) (by decide +kernel)⟩
theorem aLN_15 : aLNok (5, 127, 6, 8) := ⟨(RX7, TX7, 16), rfl, by decide, aN_t 166 (by decide +kernel) (by decide +kernel)⟩
theorem aLN_16 : aLNok (5, 133, 6, 4) := ⟨(RX7, TX7, 16), rfl, by decide, aN_t 154 (by decide +kernel) (by decide +kernel)⟩
theorem aLN_17 : aLNok (5, 143, 6, 5) := ⟨(RX7, TX7, 16), rfl, by decide, aN_t 157 (by decide +kernel) (by decide +kernel)⟩
theorem aLN_18 : aLNok (5, 149, 6, 6) := ⟨(RX7, TX7, 16), rfl, by decide, aN_t 160 (by decide +kernel) (by decide +kernel)⟩
theorem aLN_19 : aLNok (5, 155, 6, 7) := ⟨(RX7, TX7, 16), rfl, by decide, aN_t 164 (by decide +kernel) (by decide +kernel)⟩
theorem aLN_20 : aLNok (5, 162, 9, 5) := ⟨(RX11, TX11, 8), rfl, by decide, aN_t 51 (by decide +kernel) (by decide +kernel)⟩
theorem aLN_21 : aLNok (5, 194, 6, 13) := ⟨(RX7, TX7, 16), rfl, by decide, aN_t 178 (by decide +kernel) (by decide +kernel)⟩
theorem aLN_22 : aLNok (5, 206, 0, 5) := ⟨(RX1, TX1, 6), rfl, by decide, aN_t 127 (by decide +kernel) (by decide +kernel)⟩
theorem aLN_23 : aLNok (7, 21, 6, 12) := ⟨(RX7, TX7, 16), rfl, by decide, aN_t 172 (by decide +kernel) (by decide +kernel)⟩
theorem aLN_24 : aLNok (8, 21, 6, 7) := ⟨(RX7, TX7, 16), rfl, by decide, aN_t 163 (by decide +kernel) (by decide +kernel)⟩
theorem aLN_25 : aLNok (8, 61, 6, 12) := ⟨(RX7, TX7, 16), rfl, by decide, aN_t 176 (by decide +kernel) (by decide +kernel)⟩
theorem aLN_26 : aLNok (8, 78, 6, 0) := ⟨(RX7, TX7, 16), rfl, by decide, aN_t 144 (by decide +kernel) (by decide +kernel)⟩
theorem aLN_27 : aLNok (10, 89, 9, 1) := ⟨(RX11, TX11, 8), rfl, by decide, aN_t 44 (by decide +kernel) (by decide +kernel)⟩
theorem aLN_28 : aLNok (10, 103, 4, 5) := ⟨(RX5, TX5, 6), rfl, by decide, aN_t 266 (by decide +kernel) (by decide +kernel)⟩
theorem aLN_29 : aLNok (10, 110, 5, 2) := ⟨(RX6, TX6, 4), rfl, by decide, aN_t 96 (by decide +kernel) (by decide +kernel)⟩
theorem aLN_30 : aLNok (10, 113, 5, 3) := ⟨(RX6, TX6, 4), rfl, by decide, aN_t 97 (by decide +kernel) (by decide +kernel)⟩
theorem aLN_31 : aLNok (10, 128, 6, 3) := ⟨(RX7, TX7, 16), rfl, by decide, aN_t 152 (by decide +kernel) (by decide +kernel)⟩
theorem aLN_32 : aLNok (10, 138, 6, 4) := ⟨(RX7, TX7, 16), rfl, by decide, aN_t 155 (by decide +kernel) (by decide +kernel)⟩
theorem aLN_33 : aLNok (10, 141, 6, 5) := ⟨(RX7, TX7, 16), rfl, by decide, aN_t 158 (by decide +kernel) (by decide +kernel)⟩
theorem aLN_34 : aLNok (10, 144, 6, 6) := ⟨(RX7, TX7, 16), rfl, by decide, aN_t 161 (by decide +kernel) (by decide +kernel)⟩
theorem aLN_35 : aLNok (10, 147, 4, 0) := ⟨(RX5, TX5, 6), rfl, by decide, aN_t 258 (by decide +kernel) (by decide +kernel)⟩
theorem aLN_36 : aLNok (10, 150, 8, 0) := ⟨(RX10, TX10, 7), rfl, by decide, aN_t 229 (by decide +kernel) (by decide +kernel)⟩
theorem aLN_37 : aLNok (10, 159, 8, 3) := ⟨(RX10, TX10, 7), rfl, by decide, aN_t 234 (by decide +kernel) (by decide +kernel)⟩
theorem aLN_38 : aLNok (10, 172, 6, 12) := ⟨(RX7, TX7, 16), rfl, by decide, aN_t 174 (by decide +kernel) (by decide +kernel)⟩
theorem aLN_39 : aLNok (10, 197, 8, 4) := ⟨(RX10, TX10, 7), rfl, by decide, aN_t 237 (by decide +kernel) (by decide +kernel)⟩
theorem aLN_40 : aLNok (10, 206, 8, 5) := ⟨(RX10, TX10, 7), rfl, by decide, aN_t 239 (by decide +kernel) (by decide +kernel)⟩
theorem aLN_41 : aLNok (10, 214, 4, 2) := ⟨(RX5, TX5, 6), rfl, by decide, aN_t 261 (by decide +kernel) (by decide +kernel)⟩
theorem aLN_42 : aLNok (10, 227, 8, 6) := ⟨(RX10, TX10, 7), rfl, by decide, aN_t 241 (by decide +kernel) (by decide +kernel)⟩
theorem aLN_43 : aLNok (10, 255, 3, 6) := ⟨(RX4, TX4, 7), rfl, by decide, aN_t 317 (by decide +kernel) (by decide +kernel)⟩
theorem aLN_44 : aLNok (10, 258, 3, 3) := ⟨(RX4, TX4, 7), rfl, by decide, aN_t 313 (by decide +kernel) (by decide +kernel)⟩
theorem aLN_45 : aLNok (10, 306, 4, 4) := ⟨(RX5, TX5, 6), rfl, by decide, aN_t 265 (by decide +kernel) (by decide +kernel)⟩
theorem aLN_46 : aLNok (10, 309, 4, 3) := ⟨(RX5, TX5, 6), rfl, by decide, aN_t 263 (by decide +kernel) (by decide +kernel)⟩
theorem aLN_47 : aLNok (10, 312, 6, 0) := ⟨(RX7, TX7, 16), rfl, by decide, aN_t 145 (by decide +kernel) (by decide +kernel)⟩
theorem aLN_48 : aLNok (10, 370, 6, 11) := ⟨(RX7, TX7, 16), rfl, by decide, aN_t 170 (by decide +kernel) (by decide +kernel)⟩
theorem aLN_49 : aLNok (10, 373, 2, 2) := ⟨(RX3, TX3, 3), rfl, by decide, aN_t 293 (by decide +kernel) (by decide +kernel)⟩
def aLN : List aQ := [(1, 67, 0, 0), (1, 75, 9, 4), (1, 91, 9, 5), (3, 45, 8, 3), (3, 55, 8, 4), (3, 69, 6, 12), (5, 53, 9, 4), (5, 76, 6, 14), (5, 84, 6, 15), (5, 97, 9, 7), (5, 101, 6, 0), (5, 110, 6, 2), (5, 114, 9, 6), (5, 121, 6, 1), (5, 124, 6, 3), (5, 127, 6, 8), (5, 133, 6, 4), (5, 143, 6, 5), (5, 149, 6, 6), (5, 155, 6, 7), (5, 162, 9, 5), (5, 194, 6, 13), (5, 206, 0, 5), (7, 21, 6, 12), (8, 21, 6, 7), (8, 61, 6, 12), (8, 78, 6, 0), (10, 89, 9, 1), (10, 103, 4, 5), (10, 110, 5, 2), (10, 113, 5, 3), (10, 128, 6, 3), (10, 138, 6, 4), (10, 141, 6, 5), (10, 144, 6, 6), (10, 147, 4, 0), (10, 150, 8, 0), (10, 159, 8, 3), (10, 172, 6, 12), (10, 197, 8, 4), (10, 206, 8, 5), (10, 214, 4, 2), (10, 227, 8, 6), (10, 255, 3, 6), (10, 258, 3, 3), (10, 306, 4, 4), (10, 309, 4, 3), (10, 312, 6, 0), (10, 370, 6, 11), (10, 373, 2, 2)]
set_option maxRecDepth 100000 in
theorem aLN_ok : ∀ q ∈ aLN, aLNok q := List.forall_mem_cons.mpr ⟨aLN_0, List.forall_mem_cons.mpr ⟨aLN_1, List.forall_mem_cons.mpr ⟨aLN_2, List.forall_mem_cons.mpr ⟨aLN_3, List.forall_mem_cons.mpr ⟨aLN_4, List.forall_mem_cons.mpr ⟨aLN_5, List.forall_mem_cons.mpr ⟨aLN_6, List.forall_mem_cons.mpr ⟨aLN_7, List.forall_mem_cons.mpr ⟨aLN_8, List.forall_mem_cons.mpr ⟨aLN_9, List.forall_mem_cons.mpr ⟨aLN_10, List.forall_mem_cons.mpr ⟨aLN_11, List.forall_mem_cons.mpr ⟨aLN_12, List.forall_mem_cons.mpr ⟨aLN_13, List.forall_mem_cons.mpr ⟨aLN_14, List.forall_mem_cons.mpr ⟨aLN_15, List.forall_mem_cons.mpr ⟨aLN_16, List.forall_mem_cons.mpr ⟨aLN_17, List.forall_mem_cons.mpr ⟨aLN_18, List.forall_mem_cons.mpr ⟨aLN_19, List.forall_mem_cons.mpr ⟨aLN_20, List.forall_mem_cons.mpr ⟨aLN_21, List.forall_mem_cons.mpr ⟨aLN_22, List.forall_mem_cons.mpr ⟨aLN_23, List.forall_mem_cons.mpr ⟨aLN_24, List.forall_mem_cons.mpr ⟨aLN_25, List.forall_mem_cons.mpr ⟨aLN_26, List.forall_mem_cons.mpr ⟨aLN_27, List.forall_mem_cons.mpr ⟨aLN_28, List.forall_mem_cons.mpr ⟨aLN_29, List.forall_mem_cons.mpr ⟨aLN_30, List.forall_mem_cons.mpr ⟨aLN_31, List.forall_mem_cons.mpr ⟨aLN_32, List.forall_mem_cons.mpr ⟨aLN_33, List.forall_mem_cons.mpr ⟨aLN_34, List.forall_mem_cons.mpr ⟨aLN_35, List.forall_mem_cons.mpr ⟨aLN_36, List.forall_mem_cons.mpr ⟨aLN_37, List.forall_mem_cons.mpr ⟨aLN_38, List.forall_mem_cons.mpr ⟨aLN_39, List.forall_mem_cons.mpr ⟨aLN_40, List.forall_mem_cons.mpr ⟨aLN_41, List.forall_mem_cons.mpr ⟨aLN_42, List.forall_mem_cons.mpr ⟨aLN_43, List.forall_mem_cons.mpr ⟨aLN_44, List.forall_mem_cons.mpr ⟨aLN_45, List.forall_mem_cons.mpr ⟨aLN_46, List.forall_mem_cons.mpr ⟨aLN_47, List.forall_mem_cons.mpr ⟨aLN_48, List.forall_mem_cons.mpr ⟨aLN_49, fun _ h => absurd h List.not_mem_nil⟩⟩⟩⟩⟩⟩⟩⟩⟩⟩⟩⟩⟩⟩⟩⟩⟩⟩⟩⟩⟩⟩⟩⟩⟩⟩⟩⟩⟩⟩⟩⟩⟩⟩⟩⟩⟩⟩⟩⟩⟩⟩⟩⟩⟩⟩⟩⟩⟩⟩
theorem aPN_0 : aPNok (5, 101, 6, 0) := ⟨(RX7, TX7, 16), rfl, by decide, by decide +kernel, aN_t 143 (by decide +kernel) (by decide +kernel)⟩
theorem aPN_1 : aPNok (5, 124, 6, 3) := ⟨(RX7, TX7, 16), rfl, by decide, by decide +kernel, aN_t 151 (by decide +kernel) (by decide +kernel)⟩
theorem aPN_2 : aPNok (5, 194, 6, 13) := ⟨(RX7, TX7, 16), rfl, by decide, by decide +kernel, aN_t 178 (by decide +kernel) (by decide +kernel)⟩
theorem aPN_3 : aPNok (5, 198, 6, 12) := ⟨(RX7, TX7, 16), rfl, by decide, by decide +kernel, aN_t 175 (by decide +kernel) (by decide +kernel)⟩
theorem aPN_4 : aPNok (10, 103, 4, 5) := ⟨(RX5, TX5, 6), rfl, by decide, by decide +kernel, aN_t 266 (by decide +kernel) (by decide +kernel)⟩
theorem aPN_5 : aPNok (10, 306, 4, 4) := ⟨(RX5, TX5, 6), rfl, by decide, by decide +kernel, aN_t 265 (by decide +kernel) (by decide +kernel)⟩
theorem aPN_6 : aPNok (10, 309, 4, 3) := ⟨(RX5, TX5, 6), rfl, by decide, by decide +kernel, aN_t 263 (by decide +kernel) (by decide +kernel)⟩
def aPN : List aQ := [(5, 101, 6, 0), (5, 124, 6, 3), (5, 194, 6, 13), (5, 198, 6, 12), (10, 103, 4, 5), (10, 306, 4, 4), (10, 309, 4, 3)]
set_option maxRecDepth 100000 in
theorem aPN_ok : ∀ q ∈ aPN, aPNok q := List.forall_mem_cons.mpr ⟨aPN_0, List.forall_mem_cons.mpr ⟨aPN_1, List.forall_mem_cons.mpr ⟨aPN_2, List.forall_mem_cons.mpr ⟨aPN_3, List.forall_mem_cons.mpr ⟨aPN_4, List.forall_mem_cons.mpr ⟨aPN_5, List.forall_mem_cons.mpr ⟨aPN_6, fun _ h => absurd h List.not_mem_nil⟩⟩⟩⟩⟩⟩⟩
theorem aCT_0 : Cond.constant (aCN 7) 33 (1000000) ∈ aWS := aW_t 1040 (by decide +kernel) (by decide +kernel)
theorem aCT_1 : Cond.constant (aCN 11) 474 (1000000) ∈ aWS := aW_t 1794 (by decide +kernel) (by decide +kernel)
theorem aCT_2 : Cond.constant (aCN 13) 265 (1431655765) ∈ aWS := aW_t 964 (by decide +kernel) (by decide +kernel)
theorem aCT_3 : Cond.constant (aCN 13) 266 (858993459) ∈ aWS := aW_t 965 (by decide +kernel) (by decide +kernel)
theorem aCT_4 : Cond.constant (aCN 13) 267 (252645135) ∈ aWS := aW_t 966 (by decide +kernel) (by decide +kernel)
def aCT : List (Nat × Nat × Int32) := [(7, 33, 1000000), (11, 474, 1000000), (13, 265, 1431655765), (13, 266, 858993459), (13, 267, 252645135)]
set_option maxRecDepth 100000 in
theorem aCT_ok : ∀ q ∈ aCT, Cond.constant (aCN q.1) q.2.1 q.2.2 ∈ aWS := List.forall_mem_cons.mpr ⟨aCT_0, List.forall_mem_cons.mpr ⟨aCT_1, List.forall_mem_cons.mpr ⟨aCT_2, List.forall_mem_cons.mpr ⟨aCT_3, List.forall_mem_cons.mpr ⟨aCT_4, fun _ h => absurd h List.not_mem_nil⟩⟩⟩⟩⟩
theorem aC2_0 : Cond.constantLong (aCN 3) 82 (1000000) ∈ aWS := aW_t 983 (by decide +kernel) (by decide +kernel)
theorem aC2_1 : Cond.constantLong (aCN 9) 64 (32) ∈ aWS := aW_t 431 (by decide +kernel) (by decide +kernel)
theorem aC2_2 : Cond.constantLong (aCN 10) 265 (1000) ∈ aWS := aW_t 1027 (by decide +kernel) (by decide +kernel)
theorem aC2_3 : Cond.constantLong (aCN 10) 277 (1000000) ∈ aWS := aW_t 1065 (by decide +kernel) (by decide +kernel)
theorem aC2_4 : Cond.constantLong (aCN 10) 353 (1103515245) ∈ aWS := aW_t 1140 (by decide +kernel) (by decide +kernel)
theorem aC2_5 : Cond.constantLong (aCN 10) 355 (12345) ∈ aWS := aW_t 1141 (by decide +kernel) (by decide +kernel)
theorem aC2_6 : Cond.constantLong (aCN 10) 357 (2147483648) ∈ aWS := aW_t 1142 (by decide +kernel) (by decide +kernel)
theorem aC2_7 : Cond.constantLong (aCN 10) 359 (65536) ∈ aWS := aW_t 1143 (by decide +kernel) (by decide +kernel)
theorem aC2_8 : Cond.constantLong (aCN 11) 139 (255) ∈ aWS := aW_t 1455 (by decide +kernel) (by decide +kernel)
theorem aC2_9 : Cond.constantLong (aCN 11) 167 (27) ∈ aWS := aW_t 1476 (by decide +kernel) (by decide +kernel)
theorem aC2_10 : Cond.constantLong (aCN 11) 169 (96) ∈ aWS := aW_t 1477 (by decide +kernel) (by decide +kernel)
theorem aC2_11 : Cond.constantLong (aCN 11) 180 (14431) ∈ aWS := aW_t 1578 (by decide +kernel) (by decide +kernel)
theorem aC2_12 : Cond.constantLong (aCN 11) 182 (267347) ∈ aWS := aW_t 1579 (by decide +kernel) (by decide +kernel)
theorem aC2_13 : Cond.constantLong (aCN 11) 184 (281317594) ∈ aWS := aW_t 1580 (by decide +kernel) (by decide +kernel)
theorem aC2_14 : Cond.constantLong (aCN 11) 186 (4351291) ∈ aWS := aW_t 1581 (by decide +kernel) (by decide +kernel)
theorem aC2_15 : Cond.constantLong (aCN 11) 188 (129415) ∈ aWS := aW_t 1582 (by decide +kernel) (by decide +kernel)
theorem aC2_16 : Cond.constantLong (aCN 11) 190 (10354323) ∈ aWS := aW_t 1583 (by decide +kernel) (by decide +kernel)
theorem aC2_17 : Cond.constantLong (aCN 11) 192 (267305) ∈ aWS := aW_t 1584 (by decide +kernel) (by decide +kernel)
theorem aC2_18 : Cond.constantLong (aCN 11) 194 (692581) ∈ aWS := aW_t 1585 (by decide +kernel) (by decide +kernel)
theorem aC2_19 : Cond.constantLong (aCN 11) 200 (10631) ∈ aWS := aW_t 1516 (by decide +kernel) (by decide +kernel)
theorem aC2_20 : Cond.constantLong (aCN 11) 220 (1111) ∈ aWS := aW_t 1517 (by decide +kernel) (by decide +kernel)
theorem aC2_21 : Cond.constantLong (aCN 11) 222 (423) ∈ aWS := aW_t 1518 (by decide +kernel) (by decide +kernel)
theorem aC2_22 : Cond.constantLong (aCN 11) 233 (339782679) ∈ aWS := aW_t 1478 (by decide +kernel) (by decide +kernel)
theorem aC2_23 : Cond.constantLong (aCN 11) 235 (464134) ∈ aWS := aW_t 1499 (by decide +kernel) (by decide +kernel)
theorem aC2_24 : Cond.constantLong (aCN 11) 237 (129361) ∈ aWS := aW_t 1500 (by decide +kernel) (by decide +kernel)
theorem aC2_25 : Cond.constantLong (aCN 11) 239 (332864552) ∈ aWS := aW_t 1501 (by decide +kernel) (by decide +kernel)
theorem aC2_26 : Cond.constantLong (aCN 11) 241 (149125) ∈ aWS := aW_t 1502 (by decide +kernel) (by decide +kernel)
theorem aC2_27 : Cond.constantLong (aCN 11) 243 (240023) ∈ aWS := aW_t 1503 (by decide +kernel) (by decide +kernel)
theorem aC2_28 : Cond.constantLong (aCN 11) 245 (6562612) ∈ aWS := aW_t 1504 (by decide +kernel) (by decide +kernel)
theorem aC2_29 : Cond.constantLong (aCN 11) 247 (1831769) ∈ aWS := aW_t 1505 (by decide +kernel) (by decide +kernel)
theorem aC2_30 : Cond.constantLong (aCN 11) 249 (3492766) ∈ aWS := aW_t 1506 (by decide +kernel) (by decide +kernel)
theorem aC2_31 : Cond.constantLong (aCN 11) 251 (339782680) ∈ aWS := aW_t 1507 (by decide +kernel) (by decide +kernel)
theorem aC2_32 : Cond.constantLong (aCN 11) 253 (89821) ∈ aWS := aW_t 1508 (by decide +kernel) (by decide +kernel)
theorem aC2_33 : Cond.constantLong (aCN 11) 255 (12584543) ∈ aWS := aW_t 1509 (by decide +kernel) (by decide +kernel)
theorem aC2_34 : Cond.constantLong (aCN 11) 257 (55175) ∈ aWS := aW_t 1510 (by decide +kernel) (by decide +kernel)
theorem aC2_35 : Cond.constantLong (aCN 11) 259 (316189) ∈ aWS := aW_t 1511 (by decide +kernel) (by decide +kernel)
theorem aC2_36 : Cond.constantLong (aCN 11) 261 (8740238) ∈ aWS := aW_t 1512 (by decide +kernel) (by decide +kernel)
theorem aC2_37 : Cond.constantLong (aCN 11) 263 (459788) ∈ aWS := aW_t 1513 (by decide +kernel) (by decide +kernel)
theorem aC2_38 : Cond.constantLong (aCN 11) 265 (459598) ∈ aWS := aW_t 1514 (by decide +kernel) (by decide +kernel)
theorem aC2_39 : Cond.constantLong (aCN 11) 267 (14200) ∈ aWS := aW_t 1515 (by decide +kernel) (by decide +kernel)
theorem aC2_40 : Cond.constantLong (aCN 11) 448 (1000000) ∈ aWS := aW_t 1760 (by decide +kernel) (by decide +kernel)
theorem aC2_41 : Cond.constantLong (aCN 11) 472 (1000) ∈ aWS := aW_t 1785 (by decide +kernel) (by decide +kernel)
theorem aC2_42 : Cond.constantLong (aCN 11) 509 (1103515245) ∈ aWS := aW_t 1878 (by decide +kernel) (by decide +kernel)
theorem aC2_43 : Cond.constantLong (aCN 11) 511 (12345) ∈ aWS := aW_t 1879 (by decide +kernel) (by decide +kernel)
theorem aC2_44 : Cond.constantLong (aCN 11) 513 (2147483648) ∈ aWS := aW_t 1880 (by decide +kernel) (by decide +kernel)
theorem aC2_45 : Cond.constantLong (aCN 11) 515 (65536) ∈ aWS := aW_t 1881 (by decide +kernel) (by decide +kernel)
theorem aC2_46 : Cond.constantLong (aCN 12) 19 (4294967295) ∈ aWS := aW_t 1898 (by decide +kernel) (by decide +kernel)
def aC2 : List (Nat × Nat × Int64) := [(3, 82, 1000000), (9, 64, 32), (10, 265, 1000), (10, 277, 1000000), (10, 353, 1103515245), (10, 355, 12345), (10, 357, 2147483648), (10, 359, 65536), (11, 139, 255), (11, 167, 27), (11, 169, 96), (11, 180, 14431), (11, 182, 267347), (11, 184, 281317594), (11, 186, 4351291), (11, 188, 129415), (11, 190, 10354323), (11, 192, 267305), (11, 194, 692581), (11, 200, 10631), (11, 220, 1111), (11, 222, 423), (11, 233, 339782679), (11, 235, 464134), (11, 237, 129361), (11, 239, 332864552), (11, 241, 149125), (11, 243, 240023), (11, 245, 6562612), (11, 247, 1831769), (11, 249, 3492766), (11, 251, 339782680), (11, 253, 89821), (11, 255, 12584543), (11, 257, 55175), (11, 259, 316189), (11, 261, 8740238), (11, 263, 459788), (11, 265, 459598), (11, 267, 14200), (11, 448, 1000000), (11, 472, 1000), (11, 509, 1103515245), (11, 511, 12345), (11, 513, 2147483648), (11, 515, 65536), (12, 19, 4294967295)]
set_option maxRecDepth 100000 in
theorem aC2_ok : ∀ q ∈ aC2, Cond.constantLong (aCN q.1) q.2.1 q.2.2 ∈ aWS := List.forall_mem_cons.mpr ⟨aC2_0, List.forall_mem_cons.mpr ⟨aC2_1, List.forall_mem_cons.mpr ⟨aC2_2, List.forall_mem_cons.mpr ⟨aC2_3, List.forall_mem_cons.mpr ⟨aC2_4, List.forall_mem_cons.mpr ⟨aC2_5, List.forall_mem_cons.mpr ⟨aC2_6, List.forall_mem_cons.mpr ⟨aC2_7, List.forall_mem_cons.mpr ⟨aC2_8, List.forall_mem_cons.mpr ⟨aC2_9, List.forall_mem_cons.mpr ⟨aC2_10, List.forall_mem_cons.mpr ⟨aC2_11, List.forall_mem_cons.mpr ⟨aC2_12, List.forall_mem_cons.mpr ⟨aC2_13, List.forall_mem_cons.mpr ⟨aC2_14, List.forall_mem_cons.mpr ⟨aC2_15, List.forall_mem_cons.mpr ⟨aC2_16, List.forall_mem_cons.mpr ⟨aC2_17, List.forall_mem_cons.mpr ⟨aC2_18, List.forall_mem_cons.mpr ⟨aC2_19, List.forall_mem_cons.mpr ⟨aC2_20, List.forall_mem_cons.mpr ⟨aC2_21, List.forall_mem_cons.mpr ⟨aC2_22, List.forall_mem_cons.mpr ⟨aC2_23, List.forall_mem_cons.mpr ⟨aC2_24, List.forall_mem_cons.mpr ⟨aC2_25, List.forall_mem_cons.mpr ⟨aC2_26, List.forall_mem_cons.mpr ⟨aC2_27, List.forall_mem_cons.mpr ⟨aC2_28, List.forall_mem_cons.mpr ⟨aC2_29, List.forall_mem_cons.mpr ⟨aC2_30, List.forall_mem_cons.mpr ⟨aC2_31, List.forall_mem_cons.mpr ⟨aC2_32, List.forall_mem_cons.mpr ⟨aC2_33, List.forall_mem_cons.mpr ⟨aC2_34, List.forall_mem_cons.mpr ⟨aC2_35, List.forall_mem_cons.mpr ⟨aC2_36, List.forall_mem_cons.mpr ⟨aC2_37, List.forall_mem_cons.mpr ⟨aC2_38, List.forall_mem_cons.mpr ⟨aC2_39, List.forall_mem_cons.mpr ⟨aC2_40, List.forall_mem_cons.mpr ⟨aC2_41, List.forall_mem_cons.mpr ⟨aC2_42, List.forall_mem_cons.mpr ⟨aC2_43, List.forall_mem_cons.mpr ⟨aC2_44, List.forall_mem_cons.mpr ⟨aC2_45, List.forall_mem_cons.mpr ⟨aC2_46, fun _ h => absurd h List.not_mem_nil⟩⟩⟩⟩⟩⟩⟩⟩⟩⟩⟩⟩⟩⟩⟩⟩⟩⟩⟩⟩⟩⟩⟩⟩⟩⟩⟩⟩⟩⟩⟩⟩⟩⟩⟩⟩⟩⟩⟩⟩⟩⟩⟩⟩⟩⟩⟩
/-- what the tables say of a class: its words, the types of its fields, their kinds -/
def atk (t : Nat) (ty : FieldType) : Bool := match t, ty with
  | 0, .int => true
  | 1, .boolean => true
  | 2, .long => true
  | 3, .object _ => true
  | 3, .array _ => true
  | 4, .object _ => true
  | _, _ => false
def aCk (ci : Nat) (r : vw_C) : Prop := (∀ w ∈ u_ws r.1 r.2.1 r.2.2, w ∈ aWS) ∧ ∃ ty0 : Nat → FieldType, (∀ k, k < r.2.2 → parseFieldDescriptor (r.2.1 k).2.2.1 = some (ty0 k)) ∧ (∀ a, a < r.2.2 → ∀ b, b < r.2.2 → a ≠ b → (r.2.1 a).2.1 ≠ (r.2.1 b).2.1) ∧ (aft ci).length = r.2.2 ∧ ∀ k, k < r.2.2 → atk ((aft ci).getD k 9) (ty0 k) = true
theorem aCk_0 : aCk 0 (RX1, TX1, 6) := ⟨inWX1, tyX1, tyX1_ok, nmX1, by decide +kernel, by decide +kernel⟩
theorem aCk_1 : aCk 1 (RX2, TX2, 1) := ⟨inWX2, tyX2, tyX2_ok, nmX2, by decide +kernel, by decide +kernel⟩
theorem aCk_2 : aCk 2 (RX3, TX3, 3) := ⟨inWX3, tyX3, tyX3_ok, nmX3, by decide +kernel, by decide +kernel⟩
theorem aCk_3 : aCk 3 (RX4, TX4, 7) := ⟨inWX4, tyX4, tyX4_ok, nmX4, by decide +kernel, by decide +kernel⟩
theorem aCk_4 : aCk 4 (RX5, TX5, 6) := ⟨inWX5, tyX5, tyX5_ok, nmX5, by decide +kernel, by decide +kernel⟩
theorem aCk_5 : aCk 5 (RX6, TX6, 4) := ⟨inWX6, tyX6, tyX6_ok, nmX6, by decide +kernel, by decide +kernel⟩
theorem aCk_6 : aCk 6 (RX7, TX7, 16) := ⟨inWX7, tyX7, tyX7_ok, nmX7, by decide +kernel, by decide +kernel⟩
theorem aCk_7 : aCk 7 (RX8, TX8, 1) := ⟨inWX8, tyX8, tyX8_ok, nmX8, by decide +kernel, by decide +kernel⟩
theorem aCk_8 : aCk 8 (RX10, TX10, 7) := ⟨inWX10, tyX10, tyX10_ok, nmX10, by decide +kernel, by decide +kernel⟩
theorem aCk_9 : aCk 9 (RX11, TX11, 8) := ⟨inWX11, tyX11, tyX11_ok, nmX11, by decide +kernel, by decide +kernel⟩
theorem aCk_10 : aCk 10 (RX12, TX12, 12) := ⟨inWX12, tyX12, tyX12_ok, nmX12, by decide +kernel, by decide +kernel⟩
theorem aCk_11 : aCk 11 (RX13, TX13, 63) := ⟨inWX13, tyX13, tyX13_ok, nmX13, by decide +kernel, by decide +kernel⟩
theorem aCk_ok : ∀ ci r, vwCl[ci]? = some r → aCk ci r := by
  intro ci r h
  match ci, h with
  | 0, h => cases h; exact aCk_0
  | 1, h => cases h; exact aCk_1
  | 2, h => cases h; exact aCk_2
  | 3, h => cases h; exact aCk_3
  | 4, h => cases h; exact aCk_4
  | 5, h => cases h; exact aCk_5
  | 6, h => cases h; exact aCk_6
  | 7, h => cases h; exact aCk_7
  | 8, h => cases h; exact aCk_8
  | 9, h => cases h; exact aCk_9
  | 10, h => cases h; exact aCk_10
  | 11, h => cases h; exact aCk_11
  | n + 12, h => cases h
end
section
/-! the true machine does what the small one says: instructions that go on to the next one -/
def aTP (t : aT) (Z : aLs → List Value → aS → Prop) : Prop := match t with
  | some (g1, g2, ls, st, S) => aG g1 (aG g2 (Z ls st S))
  | none => False
section
variable {Z : aLs → List Value → aS → Prop} {st : List Value}
theorem pI_inv {k : Int32 → List Value → aT} (h : aTP (pI st k) Z) : ∃ x r, st = .int x :: r ∧ aTP (k x r) Z := by
  unfold pI at h; split at h
  · exact ⟨_, _, rfl, h⟩
  · exact h.elim
theorem pII_inv {k : Int32 → Int32 → List Value → aT} (h : aTP (pII st k) Z) : ∃ x y r, st = .int y :: .int x :: r ∧ aTP (k x y r) Z := by
  unfold pII at h; split at h
  · exact ⟨_, _, _, rfl, h⟩
  · exact h.elim
theorem pL_inv {k : Int64 → List Value → aT} (h : aTP (pL st k) Z) : ∃ x r, st = .long x :: r ∧ aTP (k x r) Z := by
  unfold pL at h; split at h
  · exact ⟨_, _, rfl, h⟩
  · exact h.elim
theorem pLL_inv {k : Int64 → Int64 → List Value → aT} (h : aTP (pLL st k) Z) : ∃ x y r, st = .long y :: .long x :: r ∧ aTP (k x y r) Z := by
  unfold pLL at h; split at h
  · exact ⟨_, _, _, rfl, h⟩
  · exact h.elim
theorem pLI_inv {k : Int64 → Int32 → List Value → aT} (h : aTP (pLI st k) Z) : ∃ x y r, st = .int y :: .long x :: r ∧ aTP (k x y r) Z := by
  unfold pLI at h; split at h
  · exact ⟨_, _, _, rfl, h⟩
  · exact h.elim
theorem pR_inv {k : Nat → List Value → aT} (h : aTP (pR st k) Z) : ∃ x r, st = .ref x :: r ∧ aTP (k x r) Z := by
  unfold pR at h; split at h
  · exact ⟨_, _, rfl, h⟩
  · exact h.elim
theorem pRR_inv {k : Nat → Nat → List Value → aT} (h : aTP (pRR st k) Z) : ∃ x y r, st = .ref y :: .ref x :: r ∧ aTP (k x y r) Z := by
  unfold pRR at h; split at h
  · exact ⟨_, _, _, rfl, h⟩
  · exact h.elim
theorem pRI_inv {k : Nat → Int32 → List Value → aT} (h : aTP (pRI st k) Z) : ∃ x y r, st = .int y :: .ref x :: r ∧ aTP (k x y r) Z := by
  unfold pRI at h; split at h
  · exact ⟨_, _, _, rfl, h⟩
  · exact h.elim
theorem pRL_inv {k : Nat → Int64 → List Value → aT} (h : aTP (pRL st k) Z) : ∃ x y r, st = .long y :: .ref x :: r ∧ aTP (k x y r) Z := by
  unfold pRL at h; split at h
  · exact ⟨_, _, _, rfl, h⟩
  · exact h.elim
theorem pRII_inv {k : Nat → Int32 → Int32 → List Value → aT} (h : aTP (pRII st k) Z) : ∃ x i y r, st = .int y :: .int i :: .ref x :: r ∧ aTP (k x i y r) Z := by
  unfold pRII at h; split at h
  · exact ⟨_, _, _, _, rfl, h⟩
  · exact h.elim
theorem pRIL_inv {k : Nat → Int32 → Int64 → List Value → aT} (h : aTP (pRIL st k) Z) : ∃ x i y r, st = .long y :: .int i :: .ref x :: r ∧ aTP (k x i y r) Z := by
  unfold pRIL at h; split at h
  · exact ⟨_, _, _, _, rfl, h⟩
  · exact h.elim
theorem aldI_inv {ls : aLs} {i : Nat} {k : Int32 → aT} (h : aTP (aldI ls i k) Z) : ∃ x, ls[i]? = some (some (.int x)) ∧ aTP (k x) Z := by
  unfold aldI at h; split at h
  · rename_i x e; exact ⟨x, e, h⟩
  · exact h.elim
theorem aldL_inv {ls : aLs} {i : Nat} {k : Int64 → aT} (h : aTP (aldL ls i k) Z) : ∃ x, ls[i]? = some (some (.long x)) ∧ aTP (k x) Z := by
  unfold aldL at h; split at h
  · rename_i x e; exact ⟨x, e, h⟩
  · exact h.elim
theorem aldR_inv {ls : aLs} {i : Nat} {k : Nat → aT} (h : aTP (aldR ls i k) Z) : ∃ x, ls[i]? = some (some (.ref x)) ∧ aTP (k x) Z := by
  unfold aldR at h; split at h
  · rename_i x e; exact ⟨x, e, h⟩
  · exact h.elim
theorem aput_inv {ls : aLs} {i : Nat} {k : aT} (h : aTP (aput ls i k) Z) : i < ls.length ∧ aTP k Z := by
  unfold aput at h
  cases hb : Nat.blt i ls.length with
  | true => rw [hb] at h; exact ⟨Nat.le_of_ble_eq_true hb, h⟩
  | false => rw [hb] at h; exact h.elim
end
theorem aGK {a c : Nat} {X : Prop} (h : aG (gK a c) X) : akd a = c ∧ X := by
  unfold gK at h
  cases hb : Nat.beq (akd a) c with
  | true => rw [hb] at h; exact ⟨Nat.eq_of_beq_eq_true hb, h⟩
  | false => rw [hb] at h; exact h
/-- what holds wherever the method stands -/
def aCx (p : Program) (s : State) (m : MethodId) (args : Array Value) (c : Code) (cc : ByteArray) (nL on : Nat) (ad : Nat → Nat) (cy : Nat → ClassId) (D : va_G) (ids : List Nat) (A : Nat → Prop) (rk : Nat → Bool) (Zc : State → Prop) : Prop :=
  p.tables.exec = Jvm.exec ∧ c.code = cc ∧ c.maxLocals = nL ∧ s.vm.findClass (aCN on) = some m.cls ∧ (∀ w ∈ aWS, w.before args s = true) ∧ (∀ w ∈ aNW, va_Nw w s) ∧ va_K D vwCl (atys cy) s ∧ ids.Nodup ∧ (∀ i ∈ ids, A (ad i)) ∧ (∀ i j, i ∈ ids → j ∈ ids → ad i = ad j → i = j) ∧ (∀ i k, akd i = k → rk k = true → i ∈ ids) ∧ Zc s ∧ ∀ x y, 2000 ≤ x → x ≤ 2099 → 2000 ≤ y → y ≤ 2099 → ad x = ad y → x = y
/-- the true machine, at this place with these locals, this stack, this state, comes to Qs -/
def aWg (p : Program) (l : Launch) (e : Env) (R : Room) (s : State) (m : MethodId) (args : Array Value) (below : List Frame) (meth : Method) (c : Code) (nL : Nat) (ad : Nat → Nat) (cy : Nat → ClassId) (D : va_G) (ids : List Nat) (A : Nat → Prop) (Qs : State → Prop) (pc : Nat) (ls : aLs) (st : List Value) (S : aS) : Prop :=
  ∀ (B : Array Slot) (H : Heap) (locs : List Loc), aHas ad B nL ls → va_P D vwCl (aws ad cy ids S) H → va_S A s.heap H locs → W p l e R s m args below meth c H locs 0 0 Qs (F0 m pc B (st.map (atv ad)))
theorem aws_D {ad : Nat → Nat} {cy : Nat → ClassId} {ids : List Nat} {A : Nat → Prop} {S : aS} (hn : ids.Nodup) (hA : ∀ i ∈ ids, A (ad i)) (hi : ∀ i j, i ∈ ids → j ∈ ids → ad i = ad j → i = j) : va_D A (aws ad cy ids S) := by
  have get : ∀ (k : Nat) (q : Nat × va_E), (aws ad cy ids S)[k]? = some q → ∃ i, ids[k]? = some i ∧ q.1 = ad i := by
    intro k q h
    unfold aws at h
    rw [List.getElem?_map] at h
    cases hk : ids[k]? with
    | none => rw [hk] at h; cases h
    | some i => rw [hk] at h; cases h; exact ⟨i, rfl, rfl⟩
  constructor
  · intro i j p q h1 h2 e
    obtain ⟨a, ha, ea⟩ := get i p h1
    obtain ⟨b, hb, eb⟩ := get j q h2
    have := hi a b (List.mem_of_getElem? ha) (List.mem_of_getElem? hb) (ea.symm.trans (e.trans eb))
    subst this
    obtain ⟨h3, h4⟩ := List.getElem?_eq_some_iff.mp ha
    obtain ⟨h5, h6⟩ := List.getElem?_eq_some_iff.mp hb
    exact (List.getElem_inj hn).mp (h4.trans h6.symm)
  · intro k q h
    obtain ⟨a, ha, ea⟩ := get k q h
    rw [ea]
    exact hA a (List.mem_of_getElem? ha)
section
variable {p : Program} {l : Launch} {e : Env} {R : Room} {s : State} {m : MethodId} {args : Array Value} {below : List Frame} {meth : Method} {c : Code} {cc : ByteArray} {nL on : Nat} {ad : Nat → Nat} {cy : Nat → ClassId} {D : va_G} {ids : List Nat} {A : Nat → Prop} {rk : Nat → Bool} {Zc : State → Prop} {Qs : State → Prop} {pc : Nat} {B : Array Slot} {H : Heap} {locs : List Loc} {rest : List Value} {S : aS}
theorem r_get (X : aCx p s m args c cc nL on ad cy D ids A rk Zc) {i a k t : Nat} {x : Nat} (hd : decode cc pc = .ok (.getfield i, 3)) (hl : (on, i, a, k) ∈ aLT ∨ (on, i, a, k) ∈ aLN) (hr : rk a = true) (ht : (aft a)[k]? = some t) (hx : akd x = a) (hP : va_P D vwCl (aws ad cy ids S) H)
    (kk : W p l e R s m args below meth c H locs 0 0 Qs (F0 m (pc + 3) B (afv ad S x (t, k) :: rest))) : W p l e R s m args below meth c H locs 0 0 Qs (F0 m pc B (.ref (ad x) :: rest)) := by
  obtain ⟨hexec, hb, hml, hown, hts, hnw, hK, hn, hA, hi, hreg, hZ⟩ := X
  obtain ⟨q0, h1, h2⟩ := aws_at (ad := ad) (cy := cy) (S := S) (hreg x a hx hr)
  have ha : Nat.blt a 20 = true := by
    rcases hl with hl | hl
    · obtain ⟨r, h3, -⟩ := aLT_ok _ hl
      have : a < 12 := (List.getElem?_eq_some_iff.mp h3).1
      exact Nat.ble_eq_true_of_le (by omega)
    · obtain ⟨r, h3, -⟩ := aLN_ok _ hl
      have : a < 12 := (List.getElem?_eq_some_iff.mp h3).1
      exact Nat.ble_eq_true_of_le (by omega)
  rw [ace_obj hx ha] at h2
  rcases hl with hl | hl
  · obtain ⟨⟨C, T, N⟩, h3, h4, h5⟩ := aLT_ok _ hl
    exact va_get (D := D) hexec hb hts (aCk_ok a _ h3).1 hown hK hP q0 h2 h3 k h4 (hts _ h5) (fun _ h => h) (aft_get ht) hd kk
  · obtain ⟨⟨C, T, N⟩, h3, h4, h5⟩ := aLN_ok _ hl
    exact va_getN (D := D) hexec hb hts (aCk_ok a _ h3).1 hown hK hP q0 h2 h3 k h4 (va_Nw.use rfl (hnw _ h5)) (fun _ h => h) (aft_get ht) hd kk
theorem r_put (X : aCx p s m args c cc nL on ad cy D ids A rk Zc) {i a k t : Nat} {x : Nat} {v : Value} {S' : aS} (hd : decode cc pc = .ok (.putfield i, 3)) (hl : (on, i, a, k) ∈ aPT ∨ (on, i, a, k) ∈ aPN) (hr : rk a = true) (ht : (aft a)[k]? = some t) (hx : akd x = a) (hP : va_P D vwCl (aws ad cy ids S) H) (hS : va_S A s.heap H locs)
    (hfit : ∀ ty : FieldType, atk t ty = true → narrow ty v = v ∧ fits ty v = true) (hv : afv ad S' x (t, k) = v) (ho : ∀ t' k', k' ≠ k → afv ad S' x (t', k') = afv ad S x (t', k')) (hj : ∀ j, j ≠ x → ace ad cy S' j = ace ad cy S j)
    (kk : ∀ (H1 : Heap) (locs1 : List Loc), va_P D vwCl (aws ad cy ids S') H1 → va_S A s.heap H1 locs1 → W p l e R s m args below meth c H1 locs1 0 0 Qs (F0 m (pc + 3) B rest)) : W p l e R s m args below meth c H locs 0 0 Qs (F0 m pc B (v :: .ref (ad x) :: rest)) := by
  obtain ⟨hexec, hb, hml, hown, hts, hnw, hK, hn, hA, hi, hreg, hZ⟩ := X
  obtain ⟨q0, h1, h2⟩ := aws_at (ad := ad) (cy := cy) (S := S) (hreg x a hx hr)
  have ha : Nat.blt a 20 = true := by
    rcases hl with hl | hl
    · obtain ⟨r, h3, -⟩ := aPT_ok _ hl
      have : a < 12 := (List.getElem?_eq_some_iff.mp h3).1
      exact Nat.ble_eq_true_of_le (by omega)
    · obtain ⟨r, h3, -⟩ := aPN_ok _ hl
      have : a < 12 := (List.getElem?_eq_some_iff.mp h3).1
      exact Nat.ble_eq_true_of_le (by omega)
  have h2' := h2
  rw [ace_obj hx ha] at h2
  have hset : (aws ad cy ids S).set q0 (ad x, .inr (a, ((aft a).zipIdx.map (afv ad S x)).set k v)) = aws ad cy ids S' := by
    rw [aft_set ht hv ho, ← ace_obj (ad := ad) (cy := cy) (S := S') hx ha]
    exact aws_set hn h1 hj
  have hlen : k < ((aft a).zipIdx.map (afv ad S x)).length := by rw [aft_len]; exact (List.getElem?_eq_some_iff.mp ht).1
  have hD : va_D A (aws ad cy ids S) := aws_D hn hA hi
  rcases hl with hl | hl
  · obtain ⟨⟨C, T, N⟩, h3, h4, h5, h6⟩ := aPT_ok _ hl
    obtain ⟨h7, ty0, h8, h9, h10, h11⟩ := aCk_ok a _ h3
    have hty := h11 k h4
    rw [List.getD_eq_getElem?_getD, ht] at hty
    obtain ⟨f1, f2⟩ := hfit _ hty
    exact va_put (D := D) hexec hb hts h7 ty0 h8 h9 hown hK hP hD hS q0 h2 h3 k h4 (hts _ h6) (fun _ h => h) h5 (h8 k h4) f1 f2 hlen hd (fun H1 locs1 q1 _ q3 => kk H1 locs1 (hset ▸ q1) q3)
  · obtain ⟨⟨C, T, N⟩, h3, h4, h5, h6⟩ := aPN_ok _ hl
    obtain ⟨h7, ty0, h8, h9, h10, h11⟩ := aCk_ok a _ h3
    have hty := h11 k h4
    rw [List.getD_eq_getElem?_getD, ht] at hty
    obtain ⟨f1, f2⟩ := hfit _ hty
    exact va_putN (D := D) hexec hb hts h7 ty0 h8 h9 hown hK hP hD hS q0 h2 h3 k h4 (va_Nw.use rfl (hnw _ h6)) (fun _ h => h) h5 (h8 k h4) f1 f2 hlen hd (fun H1 locs1 q1 _ q3 => kk H1 locs1 (hset ▸ q1) q3)
end
end
section
/-! rows of arrays, and all instructions that go on to the next one -/
section
variable {p : Program} {l : Launch} {e : Env} {R : Room} {s : State} {m : MethodId} {args : Array Value} {below : List Frame} {meth : Method} {c : Code} {cc : ByteArray} {nL on : Nat} {ad : Nat → Nat} {cy : Nat → ClassId} {D : va_G} {ids : List Nat} {A : Nat → Prop} {rk : Nat → Bool} {Zc : State → Prop} {Qs : State → Prop} {pc : Nat} {B : Array Slot} {H : Heap} {locs : List Loc} {rest : List Value} {S : aS}
theorem r_iald (X : aCx p s m args c cc nL on ad cy D ids A rk Zc) {a x : Nat} {i : Int32} (hd : decode cc pc = .ok (.iaload, 1)) (h20 : Nat.blt a 20 = false) (hm : a % 10 = 0) (hr : rk a = true) (hx : akd x = a) (hin : vp_in i (aln x)) (hP : va_P D vwCl (aws ad cy ids S) H)
    (kk : W p l e R s m args below meth c H locs 0 0 Qs (F0 m (pc + 1) B (.int (ga S x i.toNatClampNeg) :: rest))) : W p l e R s m args below meth c H locs 0 0 Qs (F0 m pc B (.int i :: .ref (ad x) :: rest)) := by
  obtain ⟨hexec, hb, hml, hown, hts, hnw, hK, hn, hA, hi, hreg, hZ⟩ := X
  obtain ⟨q0, h1, h2⟩ := aws_at (ad := ad) (cy := cy) (S := S) (hreg x a hx hr)
  rw [ace_arr hx h20, arw_I hx (Or.inl hm), hm] at h2
  exact va_iald hexec hb hK hP q0 0 h2 rfl hin hd kk
theorem r_lald (X : aCx p s m args c cc nL on ad cy D ids A rk Zc) {a x : Nat} {i : Int32} (hd : decode cc pc = .ok (.laload, 1)) (h20 : Nat.blt a 20 = false) (hm : a % 10 = 1) (hr : rk a = true) (hx : akd x = a) (hin : vp_in i (aln x)) (hP : va_P D vwCl (aws ad cy ids S) H)
    (kk : W p l e R s m args below meth c H locs 0 0 Qs (F0 m (pc + 1) B (.long (gb S x i.toNatClampNeg) :: rest))) : W p l e R s m args below meth c H locs 0 0 Qs (F0 m pc B (.int i :: .ref (ad x) :: rest)) := by
  obtain ⟨hexec, hb, hml, hown, hts, hnw, hK, hn, hA, hi, hreg, hZ⟩ := X
  obtain ⟨q0, h1, h2⟩ := aws_at (ad := ad) (cy := cy) (S := S) (hreg x a hx hr)
  rw [ace_arr hx h20, arw_L hx hm, hm] at h2
  exact va_lald hexec hb hK hP q0 1 h2 rfl hin hd kk
theorem r_bald (X : aCx p s m args c cc nL on ad cy D ids A rk Zc) {a x : Nat} {i : Int32} (hd : decode cc pc = .ok (.baload, 1)) (h20 : Nat.blt a 20 = false) (hm : a % 10 = 2) (hr : rk a = true) (hx : akd x = a) (hin : vp_in i (aln x)) (hP : va_P D vwCl (aws ad cy ids S) H)
    (kk : W p l e R s m args below meth c H locs 0 0 Qs (F0 m (pc + 1) B (.int (ga S x i.toNatClampNeg) :: rest))) : W p l e R s m args below meth c H locs 0 0 Qs (F0 m pc B (.int i :: .ref (ad x) :: rest)) := by
  obtain ⟨hexec, hb, hml, hown, hts, hnw, hK, hn, hA, hi, hreg, hZ⟩ := X
  obtain ⟨q0, h1, h2⟩ := aws_at (ad := ad) (cy := cy) (S := S) (hreg x a hx hr)
  rw [ace_arr hx h20, arw_I hx (Or.inr (Or.inl hm)), hm] at h2
  exact va_bald hexec hb hK hP q0 2 h2 rfl hin hd kk
theorem r_zald (X : aCx p s m args c cc nL on ad cy D ids A rk Zc) {a x : Nat} {i : Int32} (hd : decode cc pc = .ok (.baload, 1)) (h20 : Nat.blt a 20 = false) (hm : a % 10 = 3) (hr : rk a = true) (hx : akd x = a) (hin : vp_in i (aln x)) (hP : va_P D vwCl (aws ad cy ids S) H)
    (kk : W p l e R s m args below meth c H locs 0 0 Qs (F0 m (pc + 1) B (.int (ga S x i.toNatClampNeg) :: rest))) : W p l e R s m args below meth c H locs 0 0 Qs (F0 m pc B (.int i :: .ref (ad x) :: rest)) := by
  obtain ⟨hexec, hb, hml, hown, hts, hnw, hK, hn, hA, hi, hreg, hZ⟩ := X
  obtain ⟨q0, h1, h2⟩ := aws_at (ad := ad) (cy := cy) (S := S) (hreg x a hx hr)
  rw [ace_arr hx h20, arw_I hx (Or.inr (Or.inr hm)), hm] at h2
  exact va_zald hexec hb hK hP q0 3 h2 rfl hin hd kk
theorem r_pald (X : aCx p s m args c cc nL on ad cy D ids A rk Zc) {a x : Nat} {i : Int32} (hd : decode cc pc = .ok (.aaload, 1)) (h20 : Nat.blt a 20 = false) (hm : a % 10 = 4) (hr : rk a = true) (hx : akd x = a) (hin : vp_in i (aln x)) (hP : va_P D vwCl (aws ad cy ids S) H)
    (kk : W p l e R s m args below meth c H locs 0 0 Qs (F0 m (pc + 1) B (.ref (ad (ara x i.toNatClampNeg)) :: rest))) : W p l e R s m args below meth c H locs 0 0 Qs (F0 m pc B (.int i :: .ref (ad x) :: rest)) := by
  obtain ⟨hexec, hb, hml, hown, hts, hnw, hK, hn, hA, hi, hreg, hZ⟩ := X
  obtain ⟨q0, h1, h2⟩ := aws_at (ad := ad) (cy := cy) (S := S) (hreg x a hx hr)
  rw [ace_arr hx h20, arw_R hx (Or.inl hm), hm] at h2
  exact va_aldq hexec hb hK hP q0 4 h2 rfl hin hd kk
theorem r_sald (X : aCx p s m args c cc nL on ad cy D ids A rk Zc) {a x : Nat} {i : Int32} (hd : decode cc pc = .ok (.aaload, 1)) (h20 : Nat.blt a 20 = false) (hm : a % 10 = 5) (hr : rk a = true) (hx : akd x = a) (hin : vp_in i (aln x)) (hP : va_P D vwCl (aws ad cy ids S) H)
    (kk : W p l e R s m args below meth c H locs 0 0 Qs (F0 m (pc + 1) B (.ref (ad (ara x i.toNatClampNeg)) :: rest))) : W p l e R s m args below meth c H locs 0 0 Qs (F0 m pc B (.int i :: .ref (ad x) :: rest)) := by
  obtain ⟨hexec, hb, hml, hown, hts, hnw, hK, hn, hA, hi, hreg, hZ⟩ := X
  obtain ⟨q0, h1, h2⟩ := aws_at (ad := ad) (cy := cy) (S := S) (hreg x a hx hr)
  rw [ace_arr hx h20, arw_R hx (Or.inr hm), hm] at h2
  exact va_aldq hexec hb hK hP q0 5 h2 rfl hin hd kk
theorem r_iast (X : aCx p s m args c cc nL on ad cy D ids A rk Zc) {a x : Nat} {i : Int32} {v : Int32} (hd : decode cc pc = .ok (.iastore, 1)) (h20 : Nat.blt a 20 = false) (hm : a % 10 = 0) (hr : rk a = true) (hx : akd x = a) (hin : vp_in i (aln x)) (hP : va_P D vwCl (aws ad cy ids S) H) (hS : va_S A s.heap H locs)
    (kk : ∀ (H1 : Heap) (locs1 : List Loc), va_P D vwCl (aws ad cy ids (sa S x i.toNatClampNeg v)) H1 → va_S A s.heap H1 locs1 → W p l e R s m args below meth c H1 locs1 0 0 Qs (F0 m (pc + 1) B rest)) : W p l e R s m args below meth c H locs 0 0 Qs (F0 m pc B (.int v :: .int i :: .ref (ad x) :: rest)) := by
  obtain ⟨hexec, hb, hml, hown, hts, hnw, hK, hn, hA, hi, hreg, hZ⟩ := X
  obtain ⟨q0, h1, h2⟩ := aws_at (ad := ad) (cy := cy) (S := S) (hreg x a hx hr)
  rw [ace_arr hx h20, arw_I hx (Or.inl hm), hm] at h2
  have hset := aws_set (ad := ad) (cy := cy) (S := S) (S' := sa S x i.toNatClampNeg v) hn h1 (fun j hj => ace_sa j hj)
  rw [ace_arr hx h20, arw_I hx (Or.inl hm), hm] at hset
  have hu : (sa S x i.toNatClampNeg v).2.2.2.1 x = upd (S.2.2.2.1 x) i.toNatClampNeg v := by simp only [sa, va_up, if_pos]
  rw [hu] at hset
  exact va_iast hexec hb hK hP (aws_D hn hA hi) hS q0 0 h2 rfl hin hd (fun H1 locs1 q1 _ q3 => kk H1 locs1 (hset ▸ q1) q3)
theorem r_bast (X : aCx p s m args c cc nL on ad cy D ids A rk Zc) {a x : Nat} {i : Int32} {v : Int32} (hd : decode cc pc = .ok (.bastore, 1)) (h20 : Nat.blt a 20 = false) (hm : a % 10 = 2) (hr : rk a = true) (hx : akd x = a) (hin : vp_in i (aln x)) (hP : va_P D vwCl (aws ad cy ids S) H) (hS : va_S A s.heap H locs)
    (kk : ∀ (H1 : Heap) (locs1 : List Loc), va_P D vwCl (aws ad cy ids (sa S x i.toNatClampNeg (vp_nar .byte v))) H1 → va_S A s.heap H1 locs1 → W p l e R s m args below meth c H1 locs1 0 0 Qs (F0 m (pc + 1) B rest)) : W p l e R s m args below meth c H locs 0 0 Qs (F0 m pc B (.int v :: .int i :: .ref (ad x) :: rest)) := by
  obtain ⟨hexec, hb, hml, hown, hts, hnw, hK, hn, hA, hi, hreg, hZ⟩ := X
  obtain ⟨q0, h1, h2⟩ := aws_at (ad := ad) (cy := cy) (S := S) (hreg x a hx hr)
  rw [ace_arr hx h20, arw_I hx (Or.inr (Or.inl hm)), hm] at h2
  have hset := aws_set (ad := ad) (cy := cy) (S := S) (S' := sa S x i.toNatClampNeg (vp_nar .byte v)) hn h1 (fun j hj => ace_sa j hj)
  rw [ace_arr hx h20, arw_I hx (Or.inr (Or.inl hm)), hm] at hset
  have hu : (sa S x i.toNatClampNeg (vp_nar .byte v)).2.2.2.1 x = upd (S.2.2.2.1 x) i.toNatClampNeg (vp_nar .byte v) := by simp only [sa, va_up, if_pos]
  rw [hu] at hset
  exact va_bast hexec hb hK hP (aws_D hn hA hi) hS q0 2 h2 rfl hin hd (fun H1 locs1 q1 _ q3 => kk H1 locs1 (hset ▸ q1) q3)
theorem r_zast (X : aCx p s m args c cc nL on ad cy D ids A rk Zc) {a x : Nat} {i : Int32} {v : Int32} (hd : decode cc pc = .ok (.bastore, 1)) (h20 : Nat.blt a 20 = false) (hm : a % 10 = 3) (hr : rk a = true) (hx : akd x = a) (hin : vp_in i (aln x)) (hP : va_P D vwCl (aws ad cy ids S) H) (hS : va_S A s.heap H locs)
    (kk : ∀ (H1 : Heap) (locs1 : List Loc), va_P D vwCl (aws ad cy ids (sa S x i.toNatClampNeg (vp_nar .boolean v))) H1 → va_S A s.heap H1 locs1 → W p l e R s m args below meth c H1 locs1 0 0 Qs (F0 m (pc + 1) B rest)) : W p l e R s m args below meth c H locs 0 0 Qs (F0 m pc B (.int v :: .int i :: .ref (ad x) :: rest)) := by
  obtain ⟨hexec, hb, hml, hown, hts, hnw, hK, hn, hA, hi, hreg, hZ⟩ := X
  obtain ⟨q0, h1, h2⟩ := aws_at (ad := ad) (cy := cy) (S := S) (hreg x a hx hr)
  rw [ace_arr hx h20, arw_I hx (Or.inr (Or.inr hm)), hm] at h2
  have hset := aws_set (ad := ad) (cy := cy) (S := S) (S' := sa S x i.toNatClampNeg (vp_nar .boolean v)) hn h1 (fun j hj => ace_sa j hj)
  rw [ace_arr hx h20, arw_I hx (Or.inr (Or.inr hm)), hm] at hset
  have hu : (sa S x i.toNatClampNeg (vp_nar .boolean v)).2.2.2.1 x = upd (S.2.2.2.1 x) i.toNatClampNeg (vp_nar .boolean v) := by simp only [sa, va_up, if_pos]
  rw [hu] at hset
  exact va_zast hexec hb hK hP (aws_D hn hA hi) hS q0 3 h2 rfl hin hd (fun H1 locs1 q1 _ q3 => kk H1 locs1 (hset ▸ q1) q3)
theorem r_last (X : aCx p s m args c cc nL on ad cy D ids A rk Zc) {a x : Nat} {i : Int32} {v : Int64} (hd : decode cc pc = .ok (.lastore, 1)) (h20 : Nat.blt a 20 = false) (hm : a % 10 = 1) (hr : rk a = true) (hx : akd x = a) (hin : vp_in i (aln x)) (hP : va_P D vwCl (aws ad cy ids S) H) (hS : va_S A s.heap H locs)
    (kk : ∀ (H1 : Heap) (locs1 : List Loc), va_P D vwCl (aws ad cy ids (sb S x i.toNatClampNeg v)) H1 → va_S A s.heap H1 locs1 → W p l e R s m args below meth c H1 locs1 0 0 Qs (F0 m (pc + 1) B rest)) : W p l e R s m args below meth c H locs 0 0 Qs (F0 m pc B (.long v :: .int i :: .ref (ad x) :: rest)) := by
  obtain ⟨hexec, hb, hml, hown, hts, hnw, hK, hn, hA, hi, hreg, hZ⟩ := X
  obtain ⟨q0, h1, h2⟩ := aws_at (ad := ad) (cy := cy) (S := S) (hreg x a hx hr)
  rw [ace_arr hx h20, arw_L hx hm, hm] at h2
  have hset := aws_set (ad := ad) (cy := cy) (S := S) (S' := sb S x i.toNatClampNeg v) hn h1 (fun j hj => ace_sb j hj)
  rw [ace_arr hx h20, arw_L hx hm, hm] at hset
  have hu : (sb S x i.toNatClampNeg v).2.2.2.2 x = vp_updL (S.2.2.2.2 x) i.toNatClampNeg v := by simp only [sb, va_up, if_pos]
  rw [hu] at hset
  exact va_last hexec hb hK hP (aws_D hn hA hi) hS q0 1 h2 rfl hin hd (fun H1 locs1 q1 _ q3 => kk H1 locs1 (hset ▸ q1) q3)
theorem atys_at (cy : Nat → ClassId) {a : Nat} (h : a < 6) : ∃ ty, (atys cy)[a]? = some (cy a, ty) := by
  match a, h with
  | 0, _ => exact ⟨_, rfl⟩
  | 1, _ => exact ⟨_, rfl⟩
  | 2, _ => exact ⟨_, rfl⟩
  | 3, _ => exact ⟨_, rfl⟩
  | 4, _ => exact ⟨_, rfl⟩
  | 5, _ => exact ⟨_, rfl⟩
theorem r_alen (X : aCx p s m args c cc nL on ad cy D ids A rk Zc) {a x : Nat} (hd : decode cc pc = .ok (.arraylength, 1)) (h20 : Nat.blt a 20 = false) (hm : a % 10 < 6) (hr : rk a = true) (hx : akd x = a) (hP : va_P D vwCl (aws ad cy ids S) H)
    (kk : W p l e R s m args below meth c H locs 0 0 Qs (F0 m (pc + 1) B (.int (Int32.ofNat (aln x)) :: rest))) : W p l e R s m args below meth c H locs 0 0 Qs (F0 m pc B (.ref (ad x) :: rest)) := by
  obtain ⟨hexec, hb, hml, hown, hts, hnw, hK, hn, hA, hi, hreg, hZ⟩ := X
  obtain ⟨q0, h1, h2⟩ := aws_at (ad := ad) (cy := cy) (S := S) (hreg x a hx hr)
  rw [ace_arr hx h20] at h2
  obtain ⟨ty, ht⟩ := atys_at cy hm
  exact va_alen hexec hb hK hP q0 (a % 10) h2 ht rfl hd kk
end
def alen1 (i : ClassFile.Instr) : Nat := match i with
  | .bipush _ => 2
  | .ldc _ => 2
  | .iload _ => 2
  | .lload _ => 2
  | .aload _ => 2
  | .istore _ => 2
  | .lstore _ => 2
  | .astore _ => 2
  | .sipush _ => 3
  | .ldc_w _ => 3
  | .ldc2_w _ => 3
  | .iinc _ _ => 3
  | .getfield _ => 3
  | .putfield _ => 3
  | .getstatic _ => 3
  | .invokevirtual _ => 3
  | .invokespecial _ => 3
  | .invokestatic _ => 3
  | .ifCond _ _ => 3
  | .if_icmp _ _ => 3
  | .if_acmp _ _ => 3
  | .goto _ => 3
  | _ => 1
/-- what a program checks of an instruction: its numbers are those of the code -/
def ackX (on : Nat) (rk : Nat → Bool) (e : aE) : Bool := match e.2.1 with
  | .iconst n => decide (Int32.ofInt n = e.2.2.2.2.2.2.1)
  | .bipush n => decide ((Int8.ofInt n).toInt32 = e.2.2.2.2.2.2.1)
  | .sipush n => decide ((Int16.ofInt n).toInt32 = e.2.2.2.2.2.2.1)
  | .ldc i => decide ((on, i, e.2.2.2.2.2.2.1) ∈ aCT)
  | .ldc_w i => decide ((on, i, e.2.2.2.2.2.2.1) ∈ aCT)
  | .lconst n => decide (Int64.ofNat (n : Nat) = e.2.2.2.2.2.2.2)
  | .ldc2_w i => decide ((on, i, e.2.2.2.2.2.2.2) ∈ aC2)
  | .iinc _ n => decide (Int32.ofInt n = e.2.2.2.2.2.2.1)
  | .getfield i => decide ((on, i, e.2.2.2.2.1, e.2.2.2.2.2.1) ∈ aLT ∨ (on, i, e.2.2.2.2.1, e.2.2.2.2.2.1) ∈ aLN) && rk e.2.2.2.2.1
  | .putfield i => decide ((on, i, e.2.2.2.2.1, e.2.2.2.2.2.1) ∈ aPT ∨ (on, i, e.2.2.2.2.1, e.2.2.2.2.2.1) ∈ aPN) && rk e.2.2.2.2.1
  | .iaload => decide (Nat.blt e.2.2.2.2.1 20 = false ∧ e.2.2.2.2.1 % 10 = 0) && rk e.2.2.2.2.1
  | .iastore => decide (Nat.blt e.2.2.2.2.1 20 = false ∧ e.2.2.2.2.1 % 10 = 0) && rk e.2.2.2.2.1
  | .laload => decide (Nat.blt e.2.2.2.2.1 20 = false ∧ e.2.2.2.2.1 % 10 = 1) && rk e.2.2.2.2.1
  | .lastore => decide (Nat.blt e.2.2.2.2.1 20 = false ∧ e.2.2.2.2.1 % 10 = 1) && rk e.2.2.2.2.1
  | .baload => decide (e.2.2.2.2.1 = 22 ∨ Nat.blt e.2.2.2.2.1 20 = false ∧ e.2.2.2.2.1 % 10 = 3) && rk e.2.2.2.2.1
  | .bastore => decide (e.2.2.2.2.1 = 22 ∨ Nat.blt e.2.2.2.2.1 20 = false ∧ e.2.2.2.2.1 % 10 = 3) && rk e.2.2.2.2.1
  | .aaload => decide (Nat.blt e.2.2.2.2.1 20 = false ∧ (e.2.2.2.2.1 % 10 = 4 ∨ e.2.2.2.2.1 % 10 = 5)) && rk e.2.2.2.2.1
  | .arraylength => decide (Nat.blt e.2.2.2.2.1 20 = false ∧ e.2.2.2.2.1 % 10 < 6) && rk e.2.2.2.2.1
  | _ => true
theorem acat1 {v : Value} (h : acat2 v = false) : v.category = 1 := by
  cases v <;> first | rfl | cases h
section
variable {p : Program} {l : Launch} {e : Env} {R : Room} {s : State} {m : MethodId} {args : Array Value} {below : List Frame} {meth : Method} {c : Code} {cc : ByteArray} {nL on : Nat} {ad : Nat → Nat} {cy : Nat → ClassId} {D : va_G} {ids : List Nat} {A : Nat → Prop} {rk : Nat → Bool} {Zc : State → Prop} {Qs : State → Prop}
set_option maxHeartbeats 4000000 in
theorem apw_ok (X : aCx p s m args c cc nL on ad cy D ids A rk Zc) {n : aE} {go : Nat → aLs → List Value → aS → Prop} {ls : aLs} {st : List Value} {S : aS} (hd : decode cc n.1 = .ok (n.2.1, n.2.2.1)) (hlen : n.2.2.1 = alen1 n.2.1) (hk : ackX on rk n = true) (h : aTP (apu n ls st S) (go 0))
    (hgo : ∀ ls' st' S', go 0 ls' st' S' → aWg p l e R s m args below meth c nL ad cy D ids A Qs (n.1 + n.2.2.1) ls' st' S') : aWg p l e R s m args below meth c nL ad cy D ids A Qs n.1 ls st S := by
  have hx := X.1
  have hb := X.2.1
  have hown := X.2.2.2.1
  have hts := X.2.2.2.2.1
  obtain ⟨pc, i, len, cut, a, b, v, w⟩ := n
  dsimp only at hd hlen hgo hk ⊢
  intro B H locs hl hP hS
  cases i with
  | iconst n =>
    obtain rfl : len = 1 := hlen
    exact lv_iconst hx hb hd (of_decide_eq_true hk) (hgo _ _ _ h B H locs hl hP hS)
  | bipush n =>
    obtain rfl : len = 2 := hlen
    exact lv_bipush hx hb hd (of_decide_eq_true hk) (hgo _ _ _ h B H locs hl hP hS)
  | sipush n =>
    obtain rfl : len = 3 := hlen
    exact lv_sipush hx hb hd (of_decide_eq_true hk) (hgo _ _ _ h B H locs hl hP hS)
  | ldc n =>
    obtain rfl : len = 2 := hlen
    exact lv_ldc hx hb hown (hts _ (aCT_ok _ (of_decide_eq_true hk))) hd (hgo _ _ _ h B H locs hl hP hS)
  | ldc_w n =>
    obtain rfl : len = 3 := hlen
    exact lv_ldcw hx hb hown (hts _ (aCT_ok _ (of_decide_eq_true hk))) hd (hgo _ _ _ h B H locs hl hP hS)
  | lconst n =>
    obtain rfl : len = 1 := hlen
    exact lv_lconst hx hb hd (of_decide_eq_true hk) (hgo _ _ _ h B H locs hl hP hS)
  | ldc2_w n =>
    obtain rfl : len = 3 := hlen
    exact lv_ldc2 hx hb hown (hts _ (aC2_ok _ (of_decide_eq_true hk))) hd (hgo _ _ _ h B H locs hl hP hS)
  | iload_n n =>
    obtain rfl : len = 1 := hlen
    obtain ⟨x, h1, h⟩ := aldI_inv h
    exact lv_iload_n hx hb hd rfl (hl.at h1) (hgo _ _ _ h B H locs hl hP hS)
  | iload n =>
    obtain rfl : len = 2 := hlen
    obtain ⟨x, h1, h⟩ := aldI_inv h
    exact lv_iload hx hb hd (hl.at h1) (hgo _ _ _ h B H locs hl hP hS)
  | lload_n n =>
    obtain rfl : len = 1 := hlen
    obtain ⟨x, h1, h⟩ := aldL_inv h
    exact lv_lload_n hx hb hd rfl (hl.at h1) (hgo _ _ _ h B H locs hl hP hS)
  | lload n =>
    obtain rfl : len = 2 := hlen
    obtain ⟨x, h1, h⟩ := aldL_inv h
    exact lv_lload hx hb hd (hl.at h1) (hgo _ _ _ h B H locs hl hP hS)
  | aload_n n =>
    obtain rfl : len = 1 := hlen
    obtain ⟨x, h1, h⟩ := aldR_inv h
    exact lv_aload_n hx hb hd rfl (hl.at h1) (hgo _ _ _ h B H locs hl hP hS)
  | aload n =>
    obtain rfl : len = 2 := hlen
    obtain ⟨x, h1, h⟩ := aldR_inv h
    exact lv_aload hx hb hd (hl.at h1) (hgo _ _ _ h B H locs hl hP hS)
  | istore_n n =>
    obtain rfl : len = 1 := hlen
    obtain ⟨x, r, rfl, h⟩ := pI_inv h
    obtain ⟨h1, h⟩ := aput_inv h
    exact lv_istore_n hx hb hd rfl hl.2 (by rw [← hl.1]; exact h1) rfl (fun B1 q => hgo _ _ _ h B1 H locs (hl.st1 q) hP hS)
  | istore n =>
    obtain rfl : len = 2 := hlen
    obtain ⟨x, r, rfl, h⟩ := pI_inv h
    obtain ⟨h1, h⟩ := aput_inv h
    exact lv_istore hx hb hd hl.2 (by rw [← hl.1]; exact h1) rfl (fun B1 q => hgo _ _ _ h B1 H locs (hl.st1 q) hP hS)
  | astore_n n =>
    obtain rfl : len = 1 := hlen
    obtain ⟨x, r, rfl, h⟩ := pR_inv h
    obtain ⟨h1, h⟩ := aput_inv h
    exact lv_astore_n hx hb hd rfl hl.2 (by rw [← hl.1]; exact h1) rfl (fun B1 q => hgo _ _ _ h B1 H locs (hl.st1 q) hP hS)
  | astore n =>
    obtain rfl : len = 2 := hlen
    obtain ⟨x, r, rfl, h⟩ := pR_inv h
    obtain ⟨h1, h⟩ := aput_inv h
    exact lv_astore hx hb hd hl.2 (by rw [← hl.1]; exact h1) rfl (fun B1 q => hgo _ _ _ h B1 H locs (hl.st1 q) hP hS)
  | lstore_n n =>
    obtain rfl : len = 1 := hlen
    obtain ⟨x, r, rfl, h⟩ := pL_inv h
    obtain ⟨h1, h⟩ := aput_inv h
    exact lv_lstore_n hx hb hd rfl hl.2 (by rw [← hl.1]; exact h1) rfl (fun B1 q => hgo _ _ _ h B1 H locs (hl.st2 q) hP hS)
  | lstore n =>
    obtain rfl : len = 2 := hlen
    obtain ⟨x, r, rfl, h⟩ := pL_inv h
    obtain ⟨h1, h⟩ := aput_inv h
    exact lv_lstore hx hb hd hl.2 (by rw [← hl.1]; exact h1) rfl (fun B1 q => hgo _ _ _ h B1 H locs (hl.st2 q) hP hS)
  | iinc n k =>
    obtain rfl : len = 3 := hlen
    obtain ⟨x, h1, h⟩ := aldI_inv h
    obtain ⟨h2, h⟩ := aput_inv h
    obtain ⟨k0, hk0⟩ := List.getElem?_of_mem ((apr_mem (ad := ad) ls 0 (n, .int x)).mpr ⟨n, .int x, h1, by rw [Nat.zero_add]; rfl⟩)
    exact lv_iinc hx hb hd hl.2 hk0 (by rw [of_decide_eq_true hk]) (by rw [← hl.1]; exact h2) rfl (fun B1 q => hgo _ _ _ h B1 H locs (hl.st1 q) hP hS)
  | iadd =>
    obtain rfl : len = 1 := hlen
    obtain ⟨x, y, r, rfl, h⟩ := pII_inv h
    exact lv_iadd hx hb hd (hgo _ _ _ h B H locs hl hP hS)
  | isub =>
    obtain rfl : len = 1 := hlen
    obtain ⟨x, y, r, rfl, h⟩ := pII_inv h
    exact lv_isub hx hb hd (hgo _ _ _ h B H locs hl hP hS)
  | imul =>
    obtain rfl : len = 1 := hlen
    obtain ⟨x, y, r, rfl, h⟩ := pII_inv h
    exact lv_imul hx hb hd (hgo _ _ _ h B H locs hl hP hS)
  | iand =>
    obtain rfl : len = 1 := hlen
    obtain ⟨x, y, r, rfl, h⟩ := pII_inv h
    exact lv_iand hx hb hd (hgo _ _ _ h B H locs hl hP hS)
  | ior =>
    obtain rfl : len = 1 := hlen
    obtain ⟨x, y, r, rfl, h⟩ := pII_inv h
    exact lv_ior hx hb hd (hgo _ _ _ h B H locs hl hP hS)
  | ixor =>
    obtain rfl : len = 1 := hlen
    obtain ⟨x, y, r, rfl, h⟩ := pII_inv h
    exact lv_ixor hx hb hd (hgo _ _ _ h B H locs hl hP hS)
  | ishl =>
    obtain rfl : len = 1 := hlen
    obtain ⟨x, y, r, rfl, h⟩ := pII_inv h
    exact lv_ishl hx hb hd (hgo _ _ _ h B H locs hl hP hS)
  | ishr =>
    obtain rfl : len = 1 := hlen
    obtain ⟨x, y, r, rfl, h⟩ := pII_inv h
    exact lv_ishr hx hb hd (hgo _ _ _ h B H locs hl hP hS)
  | idiv =>
    obtain rfl : len = 1 := hlen
    obtain ⟨x, y, r, rfl, h⟩ := pII_inv h
    exact lv_idiv hx hb hd h.1 (hgo _ _ _ h.2 B H locs hl hP hS)
  | irem =>
    obtain rfl : len = 1 := hlen
    obtain ⟨x, y, r, rfl, h⟩ := pII_inv h
    exact lv_irem hx hb hd h.1 (hgo _ _ _ h.2 B H locs hl hP hS)
  | iushr =>
    obtain rfl : len = 1 := hlen
    obtain ⟨x, y, r, rfl, h⟩ := pII_inv h
    exact lv_iushr hx hb hd rfl (hgo _ _ _ h B H locs hl hP hS)
  | ladd =>
    obtain rfl : len = 1 := hlen
    obtain ⟨x, y, r, rfl, h⟩ := pLL_inv h
    exact lv_ladd hx hb hd (hgo _ _ _ h B H locs hl hP hS)
  | lsub =>
    obtain rfl : len = 1 := hlen
    obtain ⟨x, y, r, rfl, h⟩ := pLL_inv h
    exact lv_lsub hx hb hd (hgo _ _ _ h B H locs hl hP hS)
  | lmul =>
    obtain rfl : len = 1 := hlen
    obtain ⟨x, y, r, rfl, h⟩ := pLL_inv h
    exact lv_lmul hx hb hd (hgo _ _ _ h B H locs hl hP hS)
  | land =>
    obtain rfl : len = 1 := hlen
    obtain ⟨x, y, r, rfl, h⟩ := pLL_inv h
    exact lv_land hx hb hd (hgo _ _ _ h B H locs hl hP hS)
  | lor =>
    obtain rfl : len = 1 := hlen
    obtain ⟨x, y, r, rfl, h⟩ := pLL_inv h
    exact lv_lor hx hb hd (hgo _ _ _ h B H locs hl hP hS)
  | ldiv =>
    obtain rfl : len = 1 := hlen
    obtain ⟨x, y, r, rfl, h⟩ := pLL_inv h
    exact lv_ldiv hx hb hd h.1 (hgo _ _ _ h.2 B H locs hl hP hS)
  | lrem =>
    obtain rfl : len = 1 := hlen
    obtain ⟨x, y, r, rfl, h⟩ := pLL_inv h
    exact lv_lrem hx hb hd h.1 (hgo _ _ _ h.2 B H locs hl hP hS)
  | lcmp =>
    obtain rfl : len = 1 := hlen
    obtain ⟨x, y, r, rfl, h⟩ := pLL_inv h
    exact W.lcmp hx hb hd (hgo _ _ _ h B H locs hl hP hS)
  | lshl =>
    obtain rfl : len = 1 := hlen
    obtain ⟨x, y, r, rfl, h⟩ := pLI_inv h
    exact lv_lshl hx hb hd rfl (hgo _ _ _ h B H locs hl hP hS)
  | lushr =>
    obtain rfl : len = 1 := hlen
    obtain ⟨x, y, r, rfl, h⟩ := pLI_inv h
    exact lv_lushr hx hb hd rfl (hgo _ _ _ h B H locs hl hP hS)
  | i2l =>
    obtain rfl : len = 1 := hlen
    obtain ⟨x, r, rfl, h⟩ := pI_inv h
    exact lv_i2l hx hb hd rfl (hgo _ _ _ h B H locs hl hP hS)
  | l2i =>
    obtain rfl : len = 1 := hlen
    obtain ⟨x, r, rfl, h⟩ := pL_inv h
    exact lv_l2i hx hb hd rfl (hgo _ _ _ h B H locs hl hP hS)
  | i2b =>
    obtain rfl : len = 1 := hlen
    obtain ⟨x, r, rfl, h⟩ := pI_inv h
    exact lv_i2b hx hb hd rfl (hgo _ _ _ h B H locs hl hP hS)
  | i2c =>
    obtain rfl : len = 1 := hlen
    obtain ⟨x, r, rfl, h⟩ := pI_inv h
    exact lv_i2c hx hb hd rfl (hgo _ _ _ h B H locs hl hP hS)
  | dup =>
    obtain rfl : len = 1 := hlen
    cases st with
    | nil => exact h.elim
    | cons x r =>
      cases hc : acat2 x with
      | true => simp only [apu, hc] at h; exact h.elim
      | false =>
        simp only [apu, hc] at h
        exact lv_dup hx hb hd ((atv_cat ad x).trans (acat1 hc)) (hgo _ _ _ h B H locs hl hP hS)
  | pop =>
    obtain rfl : len = 1 := hlen
    cases st with
    | nil => exact h.elim
    | cons x r =>
      cases hc : acat2 x with
      | true => simp only [apu, hc] at h; exact h.elim
      | false =>
        simp only [apu, hc] at h
        exact lv_pop hx hb hd ((atv_cat ad x).trans (acat1 hc)) (hgo _ _ _ h B H locs hl hP hS)
  | dup2 =>
    obtain rfl : len = 1 := hlen
    cases st with
    | nil => exact h.elim
    | cons x r =>
      cases r with
      | nil => exact h.elim
      | cons y r =>
        cases hc : acat2 x with
        | true =>
          simp only [apu, hc] at h
          exact lv_dup2_2 hx hb hd (by rw [atv_cat]; rw [acat2_cat] at hc; exact eq_of_beq hc) (hgo _ _ _ h B H locs hl hP hS)
        | false =>
          cases hc2 : acat2 y with
          | true => simp only [apu, hc, hc2] at h; exact h.elim
          | false =>
            simp only [apu, hc, hc2] at h
            exact lv_dup2_11 hx hb hd ((atv_cat ad x).trans (acat1 hc)) ((atv_cat ad y).trans (acat1 hc2)) (hgo _ _ _ h B H locs hl hP hS)
  | getfield n =>
    obtain rfl : len = 3 := hlen
    obtain ⟨x, r, rfl, h⟩ := pR_inv h
    obtain ⟨k1, k2⟩ := (Bool.and_eq_true _ _).mp hk
    have k1 : (on, n, a, b) ∈ aLT ∨ (on, n, a, b) ∈ aLN := of_decide_eq_true k1
    have h : aTP (afg S x a b fun v => some (gK x a, none, ls, v :: r, S)) (go 0) := h
    unfold afg at h
    split at h
    · rename_i ht
      obtain ⟨h1, h⟩ := aGK h
      exact r_get X hd k1 k2 ht h1 hP (hgo _ _ _ h B H locs hl hP hS)
    · rename_i ht
      obtain ⟨h1, h⟩ := aGK h
      exact r_get X hd k1 k2 ht h1 hP (hgo _ _ _ h B H locs hl hP hS)
    · rename_i ht
      obtain ⟨h1, h⟩ := aGK h
      exact r_get X hd k1 k2 ht h1 hP (hgo _ _ _ h B H locs hl hP hS)
    · rename_i ht
      obtain ⟨h1, h⟩ := aGK h
      exact r_get X hd k1 k2 ht h1 hP (hgo _ _ _ h B H locs hl hP hS)
    · rename_i ht
      obtain ⟨h1, h⟩ := aGK h
      exact r_get X hd k1 k2 ht h1 hP (hgo _ _ _ h B H locs hl hP hS)
    · exact h.elim
  | putfield n =>
    obtain rfl : len = 3 := hlen
    obtain ⟨k1, k2⟩ := (Bool.and_eq_true _ _).mp hk
    have k1 := of_decide_eq_true k1
    have h : aTP (afp S a b ls st) (go 0) := h
    unfold afp at h
    split at h
    · rename_i ht
      obtain ⟨x, y, r, rfl, h⟩ := pRI_inv h
      obtain ⟨h1, h⟩ := aGK h
      refine r_put (S' := si S x b y) X hd k1 k2 ht h1 hP hS (fun ty q => by cases ty <;> first | exact ⟨rfl, rfl⟩ | cases q) (by simp [afv, gi, gl, gr, si, va_up, atv]) (fun t' k' hne => by simp [afv, gi, gl, gr, si, va_up, hne]) (fun j hj => ace_si j hj) (fun H1 locs1 q1 q2 => hgo _ _ _ h B H1 locs1 hl q1 q2)
    · rename_i ht
      obtain ⟨x, y, r, rfl, h⟩ := pRI_inv h
      obtain ⟨h1, h⟩ := aGK h
      refine r_put (S' := si S x b y) X hd k1 k2 ht h1 hP hS (fun ty q => by rcases h.1 with z | z <;> subst z <;> cases ty <;> first | exact ⟨rfl, rfl⟩ | cases q) (by simp [afv, gi, gl, gr, si, va_up, atv]) (fun t' k' hne => by simp [afv, gi, gl, gr, si, va_up, hne]) (fun j hj => ace_si j hj) (fun H1 locs1 q1 q2 => hgo _ _ _ h.2 B H1 locs1 hl q1 q2)
    · rename_i ht
      obtain ⟨x, y, r, rfl, h⟩ := pRL_inv h
      obtain ⟨h1, h⟩ := aGK h
      refine r_put (S' := sl S x b y) X hd k1 k2 ht h1 hP hS (fun ty q => by cases ty <;> first | exact ⟨rfl, rfl⟩ | cases q) (by simp [afv, gi, gl, gr, sl, va_up, atv]) (fun t' k' hne => by simp [afv, gi, gl, gr, sl, va_up, hne]) (fun j hj => ace_sl j hj) (fun H1 locs1 q1 q2 => hgo _ _ _ h B H1 locs1 hl q1 q2)
    · rename_i ht
      obtain ⟨x, y, r, rfl, h⟩ := pRR_inv h
      obtain ⟨h1, h⟩ := aGK h
      refine r_put (S' := sr S x b y) X hd k1 k2 ht h1 hP hS (fun ty q => by cases ty <;> first | exact ⟨rfl, rfl⟩ | cases q) (by simp [afv, gi, gl, gr, sr, va_up, atv]) (fun t' k' hne => by simp [afv, gi, gl, gr, sr, va_up, hne]) (fun j hj => ace_sr j hj) (fun H1 locs1 q1 q2 => hgo _ _ _ h B H1 locs1 hl q1 q2)
    · exact h.elim
  | iaload =>
    obtain rfl : len = 1 := hlen
    obtain ⟨x, y, r, rfl, h⟩ := pRI_inv h
    obtain ⟨k1, k2⟩ := (Bool.and_eq_true _ _).mp hk
    have k1 := of_decide_eq_true k1
    obtain ⟨h1, h2, h⟩ := aGK h
    exact r_iald X hd k1.1 k1.2 k2 h1 h2 hP (hgo _ _ _ h B H locs hl hP hS)
  | laload =>
    obtain rfl : len = 1 := hlen
    obtain ⟨x, y, r, rfl, h⟩ := pRI_inv h
    obtain ⟨k1, k2⟩ := (Bool.and_eq_true _ _).mp hk
    have k1 := of_decide_eq_true k1
    obtain ⟨h1, h2, h⟩ := aGK h
    exact r_lald X hd k1.1 k1.2 k2 h1 h2 hP (hgo _ _ _ h B H locs hl hP hS)
  | baload =>
    obtain rfl : len = 1 := hlen
    obtain ⟨x, y, r, rfl, h⟩ := pRI_inv h
    obtain ⟨k1, k2⟩ := (Bool.and_eq_true _ _).mp hk
    have k1 := of_decide_eq_true k1
    have k1 : a = 22 ∨ Nat.blt a 20 = false ∧ a % 10 = 3 := k1
    have k2 : rk a = true := k2
    have h : aTP (cond (Nat.beq a 22) (some (gK x a, some (vp_in y (aln x)), ls, .int (ga S x y.toNatClampNeg) :: r, S)) (some (gK x a, some (vp_in y (aln x)), ls, .int (ga S x y.toNatClampNeg) :: r, S))) (go 0) := h
    rcases k1 with k1 | k1
    · subst k1
      obtain ⟨h1, h2, h⟩ := aGK h
      exact r_bald X hd rfl rfl k2 h1 h2 hP (hgo _ _ _ h B H locs hl hP hS)
    · have hne : Nat.beq a 22 = false := by
        cases hb9 : Nat.beq a 22 with
        | false => rfl
        | true => have := Nat.eq_of_beq_eq_true hb9; omega
      simp only [hne, cond_false] at h
      obtain ⟨h1, h2, h⟩ := aGK h
      exact r_zald X hd k1.1 k1.2 k2 h1 h2 hP (hgo _ _ _ h B H locs hl hP hS)
  | aaload =>
    obtain rfl : len = 1 := hlen
    obtain ⟨x, y, r, rfl, h⟩ := pRI_inv h
    obtain ⟨k1, k2⟩ := (Bool.and_eq_true _ _).mp hk
    have k1 := of_decide_eq_true k1
    obtain ⟨h1, h2, h⟩ := aGK h
    rcases k1.2 with z | z
    · exact r_pald X hd k1.1 z k2 h1 h2 hP (hgo _ _ _ h B H locs hl hP hS)
    · exact r_sald X hd k1.1 z k2 h1 h2 hP (hgo _ _ _ h B H locs hl hP hS)
  | iastore =>
    obtain rfl : len = 1 := hlen
    obtain ⟨x, y, z, r, rfl, h⟩ := pRII_inv h
    obtain ⟨k1, k2⟩ := (Bool.and_eq_true _ _).mp hk
    have k1 := of_decide_eq_true k1
    obtain ⟨h1, h2, h⟩ := aGK h
    exact r_iast X hd k1.1 k1.2 k2 h1 h2 hP hS (fun H1 locs1 q1 q2 => hgo _ _ _ h B H1 locs1 hl q1 q2)
  | lastore =>
    obtain rfl : len = 1 := hlen
    obtain ⟨x, y, z, r, rfl, h⟩ := pRIL_inv h
    obtain ⟨k1, k2⟩ := (Bool.and_eq_true _ _).mp hk
    have k1 := of_decide_eq_true k1
    obtain ⟨h1, h2, h⟩ := aGK h
    exact r_last X hd k1.1 k1.2 k2 h1 h2 hP hS (fun H1 locs1 q1 q2 => hgo _ _ _ h B H1 locs1 hl q1 q2)
  | bastore =>
    obtain rfl : len = 1 := hlen
    obtain ⟨x, y, z, r, rfl, h⟩ := pRII_inv h
    obtain ⟨k1, k2⟩ := (Bool.and_eq_true _ _).mp hk
    have k1 := of_decide_eq_true k1
    have k1 : a = 22 ∨ Nat.blt a 20 = false ∧ a % 10 = 3 := k1
    have k2 : rk a = true := k2
    have h : aTP (cond (Nat.beq a 22) (some (gK x a, some (vp_in y (aln x)), ls, r, sa S x y.toNatClampNeg (vp_nar .byte z))) (some (gK x a, some (vp_in y (aln x)), ls, r, sa S x y.toNatClampNeg (vp_nar .boolean z)))) (go 0) := h
    rcases k1 with k1 | k1
    · subst k1
      obtain ⟨h1, h2, h⟩ := aGK h
      exact r_bast X hd rfl rfl k2 h1 h2 hP hS (fun H1 locs1 q1 q2 => hgo _ _ _ h B H1 locs1 hl q1 q2)
    · have hne : Nat.beq a 22 = false := by
        cases hb9 : Nat.beq a 22 with
        | false => rfl
        | true => have := Nat.eq_of_beq_eq_true hb9; omega
      simp only [hne, cond_false] at h
      obtain ⟨h1, h2, h⟩ := aGK h
      exact r_zast X hd k1.1 k1.2 k2 h1 h2 hP hS (fun H1 locs1 q1 q2 => hgo _ _ _ h B H1 locs1 hl q1 q2)
  | arraylength =>
    obtain rfl : len = 1 := hlen
    obtain ⟨x, r, rfl, h⟩ := pR_inv h
    obtain ⟨k1, k2⟩ := (Bool.and_eq_true _ _).mp hk
    have k1 := of_decide_eq_true k1
    obtain ⟨h1, h⟩ := aGK h
    exact r_alen X hd k1.1 k1.2 k2 h1 hP (hgo _ _ _ h B H locs hl hP hS)
  | _ => exact h.elim
end
end
section
/-! the true machine does what the small one says: jumps, returns, calls; methods -/
/-- a method: its name, its code, its locals, what it returns, its class's number, the kind of its receiver (99: none), how many parameters, the locals that are used behind each cut, its instructions -/
abbrev aMI : Type := MethodName × ByteArray × Nat × Option FieldType × Nat × Nat × Nat × (Nat → Nat) × List aE
def aro (ad : Nat → Nat) (v : Value) : Option Value := match v with
  | .null => none
  | .int x => some (.int x)
  | .long x => some (.long x)
  | .ref x => some (.ref (ad x))
  | .float x => some (.float x)
  | .double x => some (.double x)
  | .retAddr x => some (.retAddr x)
def aQc (ad : Nat → Nat) (cy : Nat → ClassId) (D : va_G) (ids : List Nat) (A : Nat → Prop) (Q : Value → aS → Prop) : Array Value → State → Outcome → State → Prop := fun _ st oc t => (∃ (v : Value) (S' : aS), oc = .returned (aro ad v) ∧ Q v S' ∧ va_P D vwCl (aws ad cy ids S') t.heap) ∧ va_F A st t
def aPc (ad : Nat → Nat) (cy : Nat → ClassId) (D : va_G) (ids : List Nat) (Zc : State → Prop) (av : List Value) (S : aS) : Array Value → State → Prop := va_Pc (av.map (atv ad)) fun U => va_P D vwCl (aws ad cy ids S) U.heap ∧ va_K D vwCl (atys cy) U ∧ (∀ w ∈ aNW, va_Nw w U) ∧ Zc U
def aRn (d : Nat) : Room := { frames := d, cells := 0, slots := 0, locals := 120 * d }
/-- the room of a method at depth d: with five frames more for the JDK's own calls -/
def aRm (d : Nat) : Room := aRn (d + 5)
/-- what is known of the constants stays so: another frame, warmer tables, other cells written -/
def aZok (A : Nat → Prop) (Zc : State → Prop) : Prop := (∀ (U : State) (g : JFrame) (mk : MethodId) (a : Array Value), Zc U → Zc (U.calling g mk a)) ∧ ∀ (s U : State) (H : Heap) (locs : List Loc), Zc s → s.WarmedH U.vm → va_S A s.heap H locs → U.heap = H → Zc U
theorem aPc_blind {ad : Nat → Nat} {cy : Nat → ClassId} {D : va_G} {ids : List Nat} {A : Nat → Prop} {Zc : State → Prop} (hz : aZok A Zc) {av : List Value} {S : aS} : FrameBlind (aPc ad cy D ids Zc av S) := by
  intro a U g mk h
  obtain ⟨h1, h2, h3, h4, h5⟩ := h
  exact ⟨h1, h2, va_K.moved (u := U) (U := U.calling g mk a) (Vm.Alike.refl U.vm) h3, aNW_same (s := U) (U := U.calling g mk a) rfl h4, hz.1 U g mk a h5⟩
def arc (k : Nat) (av : List Value) (X : Prop) : Prop := match Nat.beq k 99 with
  | true => X
  | false => match av with
    | .ref a :: _ => aG (gK a k) X
    | _ => False
def aif (b : Bool) (X : Prop) : Prop := match b with
  | true => X
  | false => False
theorem aif_mono {b : Bool} {X Y : Prop} (h : X → Y) (x : aif b X) : aif b Y := by
  cases b <;> first | exact h x | exact x
/-- a call at depth d comes to Q -/
def aW (px : aE → aLs → List Value → aS → aT) (MI : Nat → aMI) (tb : Nat → List (Int32 × Nat)) : Nat → Nat → List Value → aS → (Value → aS → Prop) → Prop
  | 0 => fun _ _ _ _ => False
  | d + 1 => fun j av S Q => aif (Nat.ble (alE av).length (MI j).2.2.1) (arc (MI j).2.2.2.2.2.1 av (aP px tb (aW px MI tb d) (MI j).2.2.2.2.2.2.2.1 (MI j).2.2.2.2.2.2.2.2 Q 0 (alc av (MI j).2.2.1) [] S))
theorem arc_mono {k : Nat} {av : List Value} {X Y : Prop} (h : X → Y) (x : arc k av X) : arc k av Y := by
  unfold arc at x ⊢
  split at x
  · exact h x
  · split at x
    · exact aG_mono h x
    · exact x
theorem aW_le {MI : Nat → aMI} {px : aE → aLs → List Value → aS → aT} {tb : Nat → List (Int32 × Nat)} : ∀ (d : Nat) (j : Nat) (av : List Value) (S : aS) (Q Q' : Value → aS → Prop), (∀ v S, Q v S → Q' v S) → aW px MI tb d j av S Q → aW px MI tb (d + 1) j av S Q' ∧ aW px MI tb d j av S Q' := by
  intro d
  induction d with
  | zero => intro j av S Q Q' _ h; exact h.elim
  | succ d ih =>
    intro j av S Q Q' hQ h
    have h : aif (Nat.ble (alE av).length (MI j).2.2.1) (arc (MI j).2.2.2.2.2.1 av (aP px tb (aW px MI tb d) (MI j).2.2.2.2.2.2.2.1 (MI j).2.2.2.2.2.2.2.2 Q 0 (alc av (MI j).2.2.1) [] S)) := h
    exact ⟨aif_mono (arc_mono (aP_mono (fun j a S R R' hR z => (ih j a S R R' hR z).1) hQ)) h, aif_mono (arc_mono (aP_mono (fun j a S R R' hR z => (ih j a S R R' hR z).2) hQ)) h⟩
/-- weaker ends, more depth -/
theorem aW_mono {MI : Nat → aMI} {px : aE → aLs → List Value → aS → aT} {tb : Nat → List (Int32 × Nat)} {d : Nat} {j : Nat} {av : List Value} {S : aS} {Q Q' : Value → aS → Prop} (h : aW px MI tb d j av S Q) (hQ : ∀ v S, Q v S → Q' v S) : aW px MI tb d j av S Q' := (aW_le d j av S Q Q' hQ h).2
theorem aW_up {MI : Nat → aMI} {px : aE → aLs → List Value → aS → aT} {tb : Nat → List (Int32 × Nat)} {d d' : Nat} {j : Nat} {av : List Value} {S : aS} {Q : Value → aS → Prop} (h : aW px MI tb d j av S Q) (hd : d ≤ d') : aW px MI tb d' j av S Q := by
  induction hd with
  | refl => exact h
  | step _ ih => exact (aW_le _ j av S Q Q (fun _ _ z => z) ih).1
theorem aW_cl {MI : Nat → aMI} {px : aE → aLs → List Value → aS → aT} {tb : Nat → List (Int32 × Nat)} (d : Nat) : ∀ j a S R R', (∀ v S, R v S → R' v S) → aW px MI tb d j a S R → aW px MI tb d j a S R' := fun j a S R R' hR h => (aW_le d j a S R R' hR h).2
/-- a method's instructions from a cut on -/
theorem aP_at {MI : Nat → aMI} {px : aE → aLs → List Value → aS → aT} {tb : Nat → List (Int32 × Nat)} {d : Nat} {mk : Nat → Nat} {code : List aE} {Q : Value → aS → Prop} {q : Nat} {ls : aLs} {st : List Value} {S : aS} (h : awp px tb (aW px MI tb d) Q (fun q ls => aP px tb (aW px MI tb d) mk code Q q (amk (mk q) ls)) (code.drop q) 0 true ls st S) : aP px tb (aW px MI tb d) mk code Q q ls st S := aP_go (aW_cl d) h
def pcO (l : List aE) : Option Nat := match l with
  | [] => none
  | n :: _ => some n.1
def ackT (code : List aE) (n : aE) (t : List aE) (off : Int) : Bool := match (match n.2.2.2.2.2.1 with | 0 => pcO (t.drop n.2.2.2.2.1) | _ => pcO (code.drop n.2.2.2.2.1)) with
  | some g => decide ((n.1 : Int) + off = (g : Int))
  | none => false
/-- a switch's rows: the numbers from lo on, where each goes -/
def ackS (code : List aE) (pc : Nat) (lo : Int) (offs : Array Int) : Nat → List (Int32 × Nat) → Bool
  | _, [] => true
  | k, (x, t) :: r => decide (x.toInt = lo + k ∧ (offs[k]?).map (fun o => (pc : Int) + o) = (pcO (code.drop t)).map (fun g => (g : Int)) ∧ (pcO (code.drop t)).isSome = true) && ackS code pc lo offs (k + 1) r
/-- what a program checks of an instruction beside those behind it -/
def ackC (tb : Nat → List (Int32 × Nat)) (ckp : Nat → aE → Bool) (MI : Nat → aMI) (NM : Nat) (MT : List (Nat × Nat × Nat)) (on : Nat) (rk : Nat → Bool) (rt : Option FieldType) (code : List aE) (n : aE) (t : List aE) : Bool := match n.2.1 with
  | .ifCond _ off => ackT code n t off && decide (pcO t = some (n.1 + 3))
  | .if_icmp _ off => ackT code n t off && decide (pcO t = some (n.1 + 3))
  | .if_acmp _ off => ackT code n t off && decide (pcO t = some (n.1 + 3))
  | .goto off => ackT code n t off
  | .tableswitch df lo hi offs => ackS code n.1 lo offs 0 (tb n.2.2.2.2.1) && decide (((tb n.2.2.2.2.1).length : Int) = hi - lo + 1 ∧ -1000 < lo ∧ hi < 1000 ∧ (pcO (code.drop n.2.2.2.2.2.1)).map (fun g => (g : Int)) = some ((n.1 : Int) + df))
  | .ireturn => (match n.2.2.2.2.1 with
    | 0 => decide (rt = some .int)
    | _ => decide (rt = some .boolean))
  | .lreturn => decide (rt = some .long)
  | .areturn => (match rt with
    | some (.object _) => true
    | _ => false)
  | .return_ => decide (rt = none)
  | .invokevirtual i => cond (Nat.ble 5000 n.2.2.2.2.1) (decide (pcO t = some (n.1 + n.2.2.1)) && ckp on n) <| decide ((on, i, n.2.2.2.2.1) ∈ MT ∧ n.2.2.2.2.1 < NM ∧ (MI n.2.2.2.2.1).2.2.2.2.2.1 ≠ 99 ∧ rk (MI n.2.2.2.2.1).2.2.2.2.2.1 = true ∧ n.2.2.2.2.2.1 % 16 = (MI n.2.2.2.2.1).2.2.2.2.2.2.1 + 1 ∧ pcO t = some (n.1 + 3))
  | .invokestatic i => cond (Nat.ble 5000 n.2.2.2.2.1) (decide (pcO t = some (n.1 + n.2.2.1)) && ckp on n) <| decide ((on, i, n.2.2.2.2.1) ∈ MT ∧ n.2.2.2.2.1 < NM ∧ (MI n.2.2.2.2.1).2.2.2.2.2.1 = 99 ∧ n.2.2.2.2.2.1 % 16 = (MI n.2.2.2.2.1).2.2.2.2.2.2.1 ∧ pcO t = some (n.1 + 3))
  | .invokespecial _ => false
  | _ => decide (pcO t = some (n.1 + n.2.2.1)) && cond (Nat.ble 5000 n.2.2.2.2.1) (ckp on n) (ackX on rk n)
def aisT (i : ClassFile.Instr) : Bool := match i with
  | .tableswitch _ _ _ _ => true
  | _ => false
def ackL (tb : Nat → List (Int32 × Nat)) (ckp : Nat → aE → Bool) (MI : Nat → aMI) (NM : Nat) (MT : List (Nat × Nat × Nat)) (cc : ByteArray) (on : Nat) (rk : Nat → Bool) (rt : Option FieldType) (code : List aE) : List aE → Bool
  | [] => true
  | n :: t => decide (decode cc n.1 = .ok (n.2.1, n.2.2.1)) && ((aisT n.2.1 || decide (n.2.2.1 = alen1 n.2.1)) && (decide (n.2.2.2.1 = 0 ∨ pcO (code.drop (n.2.2.2.1 - 1)) = some n.1) && (ackC tb ckp MI NM MT on rk rt code n t && ackL tb ckp MI NM MT cc on rk rt code t)))
/-- what is known of a method by the tables -/
def aMok (i : aMI) : Prop := plainFor i.1 = true ∧ i.1.cls = aCN i.2.2.2.2.1 ∧ i.1.cls ≠ "java/lang/invoke/MethodHandle" ∧ i.1.cls ≠ "java/lang/invoke/VarHandle" ∧ (parseMethodDescriptor i.1.desc).map (fun d => d.parameters.length) = some i.2.2.2.2.2.2.1 ∧ i.2.2.1 ≤ 100 ∧ Cond.code i.1 i.2.1 i.2.2.1 i.2.2.2.1 ∈ aWS ∧ Cond.initialized i.1.cls ∈ aWS ∧
  ((i.2.2.2.2.2.1 = 99 ∧ Cond.static i.1 ∈ aWS) ∨ (i.2.2.2.2.2.1 ≠ 99 ∧ (∃ r : vw_C, vwCl[i.2.2.2.2.2.1]? = some r ∧ r.1 = i.1.cls) ∧ Cond.instanceMethod i.1 ∈ aWS ∧ Cond.selects i.1.cls i.1 i.1 ∈ aWS))
/-- what is known of a call's link -/
def aMTok (MI : Nat → aMI) (q : Nat × Nat × Nat) : Prop := Cond.methodLink (aCN q.1) q.2.1 (MI q.2.2).1 ∈ aWS
end
section
/-! jumps, returns, calls -/
theorem aif_out {b : Bool} {X : Prop} (h : aif b X) : X := by
  cases b <;> first | exact h | exact h.elim
theorem aif_tr {b : Bool} {X : Prop} (h : aif b X) : b = true := by
  cases b <;> first | rfl | exact h.elim
theorem arc_out {k : Nat} {av : List Value} {X : Prop} (h : arc k av X) : X := by
  unfold arc at h
  split at h
  · exact h
  · split at h
    · exact (aGK h).2
    · exact h.elim
theorem aro_cat {ad : Nat → Nat} {n : Nat} {v : Value} {k : List Value → Prop} (h : arv n v k) : ∃ w : List Value, k w ∧ (aro ad v).toList = w.map (atv ad) := by
  match n with
  | 0 => cases v <;> first | exact ⟨[], h, rfl⟩ | exact h.elim
  | 1 => cases v <;> first | exact ⟨_, h, rfl⟩ | exact h.elim
  | 2 => cases v <;> first | exact ⟨_, h, rfl⟩ | exact h.elim
  | n + 3 => cases v <;> first | exact ⟨_, h, rfl⟩ | exact h.elim
theorem acs_map {ad : Nat → Nat} (st : List Value) : ((st.map (atv ad)).map fun v => v.category).sum = acs st := by
  unfold acs
  rw [List.map_map]
  congr 1
  exact List.map_congr_left fun v _ => atv_cat ad v
theorem ackT_inv {code : List aE} {n : aE} {t : List aE} {off : Int} (h : ackT code n t off = true) : ∃ g : Nat, (match n.2.2.2.2.2.1 with | 0 => pcO (t.drop n.2.2.2.2.1) | _ => pcO (code.drop n.2.2.2.2.1)) = some g ∧ (n.1 : Int) + off = (g : Int) := by
  unfold ackT at h
  split at h
  · rename_i g e; exact ⟨g, e, of_decide_eq_true h⟩
  · cases h
section
variable {p : Program} {l : Launch} {e : Env} {R : Room} {s : State} {m : MethodId} {args : Array Value} {below : List Frame} {meth : Method} {c : Code} {cc : ByteArray} {nL on : Nat} {ad : Nat → Nat} {cy : Nat → ClassId} {D : va_G} {ids : List Nat} {A : Nat → Prop} {rk : Nat → Bool} {Zc : State → Prop} {Qs : State → Prop} {pc : Nat} {B : Array Slot} {H : Heap} {locs : List Loc}
/-- behind a call -/
theorem r_run {Q : Value → aS → Prop} {a' : Array Value} {st0 rest : List Value} (hr : va_Run p l e R s m args below meth c H locs 0 0 0 0 (F0 m pc B st0) rest (aQc ad cy D ids A Q a') A) (hS : va_S A s.heap H locs)
    (kk : ∀ (v : Value) (S' : aS) (H1 : Heap) (locs1 : List Loc), Q v S' → va_P D vwCl (aws ad cy ids S') H1 → va_S A s.heap H1 locs1 → W p l e R s m args below meth c H1 locs1 0 0 Qs (F0 m (pc + 3) B ((aro ad v).toList ++ rest))) : W p l e R s m args below meth c H locs 0 0 Qs (F0 m pc B st0) := by
  intro T hT X
  obtain ⟨v, st₀, t, T', L, h0, X', hL, e1, e2, ⟨⟨v1, S1, hv, hq, hp⟩, hz, hk⟩, stp⟩ := hr T hT X
  cases hv
  rw [h0] at hz hk
  obtain ⟨t2, a1, b1⟩ := kk v1 S1 T'.heap (locs ++ L) hq (by rw [e1]; exact hp)
    ⟨Nat.le_trans hS.1 (by rw [e1]; exact hz), fun q h1 h2 => by rw [e1, hk q (Nat.lt_of_lt_of_le h1 hS.1) h2]; exact hS.2.1 q h1 h2, fun q hq => by
      rcases List.mem_append.mp hq with h | h
      · exact hS.2.2 q h
      · exact hL q h⟩ T' rfl X'
  exact ⟨t2, stp t2 a1, b1⟩
variable {MI : Nat → aMI} {px : aE → aLs → List Value → aS → aT} {tb : Nat → List (Int32 × Nat)} {NM : Nat} {MT : List (Nat × Nat × Nat)} {d : Nat}
/-- the contract of a method of the small machine at a call -/
def aMet (l : Launch) (ad : Nat → Nat) (cy : Nat → ClassId) (D : va_G) (ids : List Nat) (A : Nat → Prop) (Zc : State → Prop) (MI : Nat → aMI) (d j : Nat) (av : List Value) (S : aS) (Q : Value → aS → Prop) : Prop :=
  Met l (MI j).1 (Cond.code (MI j).1 (MI j).2.1 (MI j).2.2.1 (MI j).2.2.2.1 :: aWS) (aRm d) (aPc ad cy D ids Zc av S) (aQc ad cy D ids A Q) 0 0 A
theorem aGood {y : MethodName} {b : ByteArray} {n : Nat} {r : Option FieldType} (h : Cond.code y b n r ∈ aWS) {ws : List Cond} (hw : ∀ w ∈ ws, w ∈ aWS) : GoodIn aWS (ws ++ (Cond.code y b n r :: aWS)) := aWS_goodIn (fun _ h => h) fun w hw' => by
  rcases List.mem_append.mp hw' with z | z
  · exact hw w z
  · rcases List.mem_cons.mp z with z | z
    · rw [z]; exact h
    · exact z
theorem r_callV (X : aCx p s m args c cc nL on ad cy D ids A rk Zc) (hzo : aZok A Zc) (hR : R = aRm (d + 1)) {j i : Nat} {rest : List Value} {S : aS} {Q : Value → aS → Prop} {b0 : Nat} {As : List Value} {ls9 : aLs} (hj : aMok (MI j)) (hk : (MI j).2.2.2.2.2.1 ≠ 99) (hl : Cond.methodLink (aCN on) i (MI j).1 ∈ aWS) (hn : As.length = (MI j).2.2.2.2.2.2.1) (hb0 : akd b0 = (MI j).2.2.2.2.2.1) (hreg : rk (MI j).2.2.2.2.2.1 = true)
    (hM : aMet l ad cy D ids A Zc MI d j (.ref b0 :: As) S Q) (hd : decode cc pc = .ok (.invokevirtual i, 3)) (hcs : acs rest ≤ 8) (hl9 : aHas ad B nL ls9) (hP : va_P D vwCl (aws ad cy ids S) H) (hS : va_S A s.heap H locs)
    (kk : ∀ (v : Value) (S' : aS) (H1 : Heap) (locs1 : List Loc), Q v S' → va_P D vwCl (aws ad cy ids S') H1 → va_S A s.heap H1 locs1 → W p l e R s m args below meth c H1 locs1 0 0 Qs (F0 m (pc + 3) B ((aro ad v).toList ++ rest.map (atv ad)))) :
    W p l e R s m args below meth c H locs 0 0 Qs (F0 m pc B ((As.map (atv ad)).reverse ++ .ref (ad b0) :: rest.map (atv ad))) := by
  have X' := X
  obtain ⟨hexec, hb, hml, hown, hts, hnw, hK, hnd, hA, hi, hreg', hZ⟩ := X
  obtain ⟨h1, h2, h3, h4, h5, h6, h7, h8, h9⟩ := hj
  rcases h9 with h9 | ⟨-, ⟨r, hr1, hr2⟩, h10, h11⟩
  · exact absurd h9.1 hk
  obtain ⟨q0, g1, g2⟩ := aws_at (ad := ad) (cy := cy) (S := S) (hreg' b0 _ hb0 hreg)
  have hlt : (MI j).2.2.2.2.2.1 < 12 := (List.getElem?_eq_some_iff.mp hr1).1
  rw [ace_obj hb0 (Nat.ble_eq_true_of_le (by omega))] at g2
  have hrv := va_recv hK hP hr1 g2
  rw [hr2] at hrv
  subst hR
  refine r_run (va_runV (As := As.map (atv ad)) (rest := rest.map (atv ad)) (Ts := aWS) ⟨hexec, hb, hml, hown, hts⟩ hM (cwV (MI j).2.2.2.2.2.2.1 hts (aGood h7 (fun w hw => ?_)) rfl rfl rfl ⟨rfl, h3, h4, h5⟩ ⟨by show d + 5 + 1 ≤ d + 1 + 5; omega, ?_⟩) ⟨aPc_blind hzo, hrv, fun U hU hW => ⟨rfl, by rw [hU]; exact hP, va_K.moved hW.alike hK, aNW_warm hW hnw, hzo.2 s U H locs hZ.1 hW hS hU⟩⟩ rfl (by rw [List.length_map]; exact hn) hl9.2.1 rfl (lv_room (by rw [acs_map]; exact hcs)) hd ⟨Nat.le_refl _, Nat.le_refl _⟩) hS kk
  · rcases List.mem_cons.mp hw with z | hw
    · rw [z]; exact hl
    · rcases List.mem_cons.mp hw with z | hw
      · rw [z]; exact h10
      · rcases List.mem_cons.mp hw with z | hw
        · rw [z]; exact h11
        · rcases List.mem_cons.mp hw with z | hw
          · rw [z]; exact h8
          · cases hw
  · show 8 + ((MI j).2.2.1 + 11) + 120 * (d + 5) ≤ 120 * (d + 1 + 5)
    omega
theorem r_callS (X : aCx p s m args c cc nL on ad cy D ids A rk Zc) (hzo : aZok A Zc) (hR : R = aRm (d + 1)) {j i : Nat} {rest : List Value} {S : aS} {Q : Value → aS → Prop} {As : List Value} {ls9 : aLs} (hj : aMok (MI j)) (hk : (MI j).2.2.2.2.2.1 = 99) (hl : Cond.methodLink (aCN on) i (MI j).1 ∈ aWS) (hn : As.length = (MI j).2.2.2.2.2.2.1)
    (hM : aMet l ad cy D ids A Zc MI d j As S Q) (hd : decode cc pc = .ok (.invokestatic i, 3)) (hcs : acs rest ≤ 8) (hl9 : aHas ad B nL ls9) (hP : va_P D vwCl (aws ad cy ids S) H) (hS : va_S A s.heap H locs)
    (kk : ∀ (v : Value) (S' : aS) (H1 : Heap) (locs1 : List Loc), Q v S' → va_P D vwCl (aws ad cy ids S') H1 → va_S A s.heap H1 locs1 → W p l e R s m args below meth c H1 locs1 0 0 Qs (F0 m (pc + 3) B ((aro ad v).toList ++ rest.map (atv ad)))) :
    W p l e R s m args below meth c H locs 0 0 Qs (F0 m pc B ((As.map (atv ad)).reverse ++ rest.map (atv ad))) := by
  obtain ⟨hexec, hb, hml, hown, hts, hnw, hK, hnd, hA, hi, hreg', hZ⟩ := X
  obtain ⟨h1, h2, h3, h4, h5, h6, h7, h8, h9⟩ := hj
  rcases h9 with ⟨-, h9⟩ | h9
  · subst hR
    refine r_run (va_runS (As := As.map (atv ad)) (rest := rest.map (atv ad)) (Ts := aWS) ⟨hexec, hb, hml, hown, hts⟩ hM ⟨callB_of (MI j).2.2.2.2.2.2.1 hts (aGood (ws := []) h7 (fun _ h => by cases h)) rfl rfl rfl (hts _ h8) (hts _ hl) ⟨h3, h4, h5⟩ ⟨by show d + 5 + 1 ≤ d + 1 + 5; omega, ?_⟩, hts _ h9⟩ ⟨aPc_blind hzo, fun U hU hW => ⟨rfl, by rw [hU]; exact hP, va_K.moved hW.alike hK, aNW_warm hW hnw, hzo.2 s U H locs hZ.1 hW hS hU⟩⟩ rfl (by rw [List.length_map]; exact hn) hl9.2.1 rfl (lv_room (by rw [acs_map]; exact hcs)) hd ⟨Nat.le_refl _, Nat.le_refl _⟩) hS kk
    show 8 + ((MI j).2.2.1 + 11) + 120 * (d + 5) ≤ 120 * (d + 1 + 5)
    omega
  · exact absurd hk h9.1
end
end
section
/-! the whole of it: a row of instructions, a method -/
theorem aM_max_s : Cond.static Lib.Math.max.name ∈ aWS := aW_t 613 (by decide +kernel) (by decide +kernel)
theorem aM_max_c : Cond.code Lib.Math.max.name Lib.Math.max.code 2 (some .int) ∈ aWS := aW_t 614 (by decide +kernel) (by decide +kernel)
theorem aM_min_s : Cond.static Lib.Math.min.name ∈ aWS := aW_t 737 (by decide +kernel) (by decide +kernel)
theorem aM_min_c : Cond.code Lib.Math.min.name Lib.Math.min.code 2 (some .int) ∈ aWS := aW_t 738 (by decide +kernel) (by decide +kernel)
theorem aM_i : Cond.initialized "java/lang/Math" ∈ aWS := aW_t 21 (by decide +kernel) (by decide +kernel)
section
variable {px : aE → aLs → List Value → aS → aT} {tb : Nat → List (Int32 × Nat)} {cl : Nat → List Value → aS → (Value → aS → Prop) → Prop} {Q : Value → aS → Prop} {nx : Nat → aLs → List Value → aS → Prop} {go : Nat → aLs → List Value → aS → Prop} {ls : aLs} {st : List Value} {S : aS} {pc : Nat} {r : Nat × Nat × Nat × Nat × Int32 × Int64}
theorem v_ifCond {cnd : ClassFile.Cond} {off : Int} (h : astp px tb cl Q nx (pc, .ifCond cnd off, r) go ls st S) : ∃ x s, st = .int x :: s ∧ abr cnd x 0 (ajp (pc, .ifCond cnd off, r) nx go ls s S) (go 0 ls s S) := by
  unfold astp at h; dsimp only at h; split at h
  · exact ⟨_, _, rfl, h⟩
  · exact h.elim
theorem v_icmp {cnd : ClassFile.Cond} {off : Int} (h : astp px tb cl Q nx (pc, .if_icmp cnd off, r) go ls st S) : ∃ x y s, st = .int y :: .int x :: s ∧ abr cnd x y (ajp (pc, .if_icmp cnd off, r) nx go ls s S) (go 0 ls s S) := by
  unfold astp at h; dsimp only at h; split at h
  · exact ⟨_, _, _, rfl, h⟩
  · exact h.elim
theorem v_goto {off : Int} (h : astp px tb cl Q nx (pc, .goto off, r) go ls st S) : ajp (pc, .goto off, r) nx go ls st S := h
theorem v_iret (h : astp px tb cl Q nx (pc, .ireturn, r) go ls st S) : ∃ x, st = [.int x] ∧ (r.2.2.1 = 0 → Q (.int x) S) ∧ (r.2.2.1 ≠ 0 → (x = 0 ∨ x = 1) ∧ Q (.int x) S) := by
  unfold astp at h; dsimp only at h; split at h
  · split at h
    · rename_i hz; exact ⟨_, rfl, fun _ => h, fun z => absurd hz z⟩
    · rename_i hz; exact ⟨_, rfl, fun z => absurd z hz, fun _ => h⟩
  · exact h.elim
theorem v_lret (h : astp px tb cl Q nx (pc, .lreturn, r) go ls st S) : ∃ x, st = [.long x] ∧ Q (.long x) S := by
  unfold astp at h; dsimp only at h; split at h
  · exact ⟨_, rfl, h⟩
  · exact h.elim
theorem v_aret (h : astp px tb cl Q nx (pc, .areturn, r) go ls st S) : ∃ x, st = [.ref x] ∧ Q (.ref x) S := by
  unfold astp at h; dsimp only at h; split at h
  · exact ⟨_, rfl, h⟩
  · exact h.elim
theorem v_vret (h : astp px tb cl Q nx (pc, .return_, r) go ls st S) : st = [] ∧ Q .null S := by
  unfold astp at h; dsimp only at h; split at h
  · exact ⟨rfl, h⟩
  · exact h.elim
theorem v_acl {e : aE} (h : acl cl e go ls st S) : acs (st.drop (e.2.2.2.2.2.1 % 16)) ≤ 8 ∧ e.2.2.2.2.2.1 % 16 ≤ st.length ∧ cl e.2.2.2.2.1 (st.take (e.2.2.2.2.2.1 % 16)).reverse S (fun v S' => arv (e.2.2.2.2.2.1 / 16) v fun l => go 0 ls (l ++ st.drop (e.2.2.2.2.2.1 % 16)) S') := by
  unfold acl at h
  split at h
  · rename_i hbl
    obtain ⟨b1, b2⟩ := (Bool.and_eq_true _ _).mp hbl
    exact ⟨Nat.le_of_ble_eq_true b1, Nat.le_of_ble_eq_true b2, h⟩
  · exact h.elim
theorem v_inv {i : Nat} (h : astp px tb cl Q nx (pc, .invokevirtual i, r) go ls st S) : cond (Nat.ble 5000 r.2.2.1) (apw px (pc, .invokevirtual i, r) go ls st S) (acl cl (pc, .invokevirtual i, r) go ls st S) := h
theorem v_ins {i : Nat} (h : astp px tb cl Q nx (pc, .invokestatic i, r) go ls st S) : cond (Nat.ble 5000 r.2.2.1) (apw px (pc, .invokestatic i, r) go ls st S) (acl cl (pc, .invokestatic i, r) go ls st S) := h
theorem v_acmp {cnd : ClassFile.ACond} {off : Int} (h : astp px tb cl Q nx (pc, .if_acmp cnd off, r) go ls st S) : ∃ x y s, st = .ref y :: .ref x :: s ∧ aG (gC x) (aG (gC y) (aba cnd x y (ajp (pc, .if_acmp cnd off, r) nx go ls s S) (go 0 ls s S))) := by
  unfold astp at h; dsimp only at h; split at h
  · exact ⟨_, _, _, rfl, h⟩
  · exact h.elim
theorem v_tsw {df lo hi : Int} {offs : Array Int} (h : astp px tb cl Q nx (pc, .tableswitch df lo hi offs, r) go ls st S) : ∃ x s, st = .int x :: s ∧ asw x r.2.2.2.1 (fun t => nx t ls s S) (tb r.2.2.1) := by
  unfold astp at h; dsimp only at h; split at h
  · exact ⟨_, _, rfl, h⟩
  · exact h.elim
theorem v_apw {e : aE} (h : apw px e go ls st S) : (Nat.ble 5000 e.2.2.2.2.1 = true → aTP (px e ls st S) (go 0)) ∧ (Nat.ble 5000 e.2.2.2.2.1 = false → aTP (apu e ls st S) (go 0)) := by
  have h : aTP (cond (Nat.ble 5000 e.2.2.2.2.1) (px e ls st S) (apu e ls st S)) (go 0) := h
  constructor
  · intro z; rw [z] at h; exact h
  · intro z; rw [z] at h; exact h
theorem aGC {x : Nat} {X : Prop} (h : aG (gC x) X) : 2000 ≤ x ∧ x ≤ 2099 ∧ X := by
  unfold gC at h
  cases hb : (Nat.ble 2000 x && Nat.ble x 2099) with
  | true =>
    rw [hb] at h
    obtain ⟨b1, b2⟩ := (Bool.and_eq_true _ _).mp hb
    exact ⟨Nat.le_of_ble_eq_true b1, Nat.le_of_ble_eq_true b2, h⟩
  | false => rw [hb] at h; exact ⟨h.1.1, h.1.2, h.2⟩
/-- a switch: none of its rows, or one of them -/
theorem asw_none {x : Int32} {d : Nat} {k : Nat → Prop} : ∀ (l : List (Int32 × Nat)), (∀ q ∈ l, x ≠ q.1) → asw x d k l → k d
  | [], _, h => h
  | (c, t) :: r, hn, h => asw_none r (fun q hq => hn q (List.mem_cons_of_mem _ hq)) (h.2 (hn _ List.mem_cons_self))
theorem asw_some {x : Int32} {d : Nat} {k : Nat → Prop} : ∀ (l : List (Int32 × Nat)) (i : Nat) (t : Nat), l[i]? = some (x, t) → (∀ (j : Nat) (q : Int32 × Nat), j < i → l[j]? = some q → x ≠ q.1) → asw x d k l → k t
  | [], i, t, h, _, _ => by cases h
  | (c, t') :: r, 0, t, h, _, z => by cases h; exact z.1 rfl
  | (c, t') :: r, i + 1, t, h, hn, z => asw_some r i t h (fun j q hj hq => hn (j + 1) q (Nat.succ_lt_succ hj) hq) (z.2 (hn 0 _ (Nat.zero_lt_succ _) rfl))
theorem ackS_get {code : List aE} {pc : Nat} {lo : Int} {offs : Array Int} : ∀ (l : List (Int32 × Nat)) (k : Nat), ackS code pc lo offs k l = true → ∀ (i : Nat) (q : Int32 × Nat), l[i]? = some q → q.1.toInt = lo + ((k + i : Nat) : Int) ∧ ∃ (o : Int) (g : Nat), offs[k + i]? = some o ∧ pcO (code.drop q.2) = some g ∧ (pc : Int) + o = (g : Int)
  | [], k, _, i, q, h => by cases h
  | (c, t) :: r, k, hk, i, q, h => by
    obtain ⟨h1, h2⟩ := (Bool.and_eq_true _ _).mp hk
    obtain ⟨e1, e2, e3⟩ := of_decide_eq_true h1
    cases i with
    | zero =>
      cases h
      refine ⟨e1, ?_⟩
      cases ho : offs[k]? with
      | none =>
        rw [ho] at e2
        cases hg : pcO (code.drop t) with
        | none => rw [hg] at e3; cases e3
        | some g => rw [hg] at e2; cases e2
      | some o =>
        cases hg : pcO (code.drop t) with
        | none => rw [hg] at e3; cases e3
        | some g =>
          rw [ho, hg] at e2
          exact ⟨o, g, rfl, rfl, Option.some.inj e2⟩
    | succ i =>
      have := ackS_get r (k + 1) h2 i q h
      rw [show k + 1 + i = k + (i + 1) from by omega] at this
      exact this
end
theorem narrow_z {x : Int32} (h : x = 0 ∨ x = 1) : narrow .boolean (.int x) = .int x := by
  rcases h with h | h <;> rw [h] <;> rfl
/-- instructions that do not go on to the next one -/
def actl (i : ClassFile.Instr) : Bool := match i with
  | .ifCond _ _ => true
  | .if_icmp _ _ => true
  | .if_acmp _ _ => true
  | .goto _ => true
  | .tableswitch _ _ _ _ => true
  | .ireturn => true
  | .lreturn => true
  | .areturn => true
  | .return_ => true
  | .invokevirtual _ => true
  | .invokespecial _ => true
  | .invokestatic _ => true
  | _ => false
theorem aisT_of {i : ClassFile.Instr} (h : actl i = false) : aisT i = false := by
  cases i <;> first | rfl | cases h
theorem v_pure {px : aE → aLs → List Value → aS → aT} {tb : Nat → List (Int32 × Nat)} {cl : Nat → List Value → aS → (Value → aS → Prop) → Prop} {Q : Value → aS → Prop} {nx : Nat → aLs → List Value → aS → Prop} {go : Nat → aLs → List Value → aS → Prop} {ls : aLs} {st : List Value} {S : aS} {n : aE} (hp : actl n.2.1 = false) (h : astp px tb cl Q nx n go ls st S) : apw px n go ls st S := by
  obtain ⟨pc, i, r⟩ := n
  unfold astp at h
  cases i <;> first | exact h | cases hp
theorem v_pureC {tb : Nat → List (Int32 × Nat)} {ckp : Nat → aE → Bool} {MI : Nat → aMI} {NM : Nat} {MT : List (Nat × Nat × Nat)} {on : Nat} {rk : Nat → Bool} {rt : Option FieldType} {code : List aE} {n : aE} {t : List aE} (hp : actl n.2.1 = false) (h : ackC tb ckp MI NM MT on rk rt code n t = true) : pcO t = some (n.1 + n.2.2.1) ∧ cond (Nat.ble 5000 n.2.2.2.2.1) (ckp on n) (ackX on rk n) = true := by
  have key : ackC tb ckp MI NM MT on rk rt code n t = (decide (pcO t = some (n.1 + n.2.2.1)) && cond (Nat.ble 5000 n.2.2.2.2.1) (ckp on n) (ackX on rk n)) := by
    obtain ⟨pc, i, r⟩ := n
    unfold ackC
    cases i <;> first | rfl | cases hp
  rw [key] at h
  obtain ⟨h1, h2⟩ := (Bool.and_eq_true _ _).mp h
  exact ⟨of_decide_eq_true h1, h2⟩
section
variable {p : Program} {l : Launch} {e : Env} {R : Room} {s : State} {m : MethodId} {args : Array Value} {below : List Frame} {meth : Method} {c : Code} {cc : ByteArray} {nL on : Nat} {ad : Nat → Nat} {cy : Nat → ClassId} {D : va_G} {ids : List Nat} {A : Nat → Prop} {rk : Nat → Bool} {Zc : State → Prop}
variable {MI : Nat → aMI} {px : aE → aLs → List Value → aS → aT} {tb : Nat → List (Int32 × Nat)} {NM : Nat} {MT : List (Nat × Nat × Nat)} {d : Nat}
variable {ckp : Nat → aE → Bool}
/-- the small machine's further steps are those of the true one -/
def aPx (px : aE → aLs → List Value → aS → aT) (ckp : Nat → aE → Bool) (p : Program) (l : Launch) (e : Env) (R : Room) (s : State) (m : MethodId) (args : Array Value) (below : List Frame) (meth : Method) (c : Code) (cc : ByteArray) (nL on : Nat) (ad : Nat → Nat) (cy : Nat → ClassId) (D : va_G) (ids : List Nat) (A : Nat → Prop) (Qs : State → Prop) : Prop :=
  ∀ (n : aE) (ls : aLs) (st : List Value) (S : aS) (Z : aLs → List Value → aS → Prop), decode cc n.1 = .ok (n.2.1, n.2.2.1) → n.2.2.1 = alen1 n.2.1 → Nat.ble 5000 n.2.2.2.2.1 = true → ckp on n = true → aTP (px n ls st S) Z →
    (∀ ls' st' S', Z ls' st' S' → aWg p l e R s m args below meth c nL ad cy D ids A Qs (n.1 + n.2.2.1) ls' st' S') → aWg p l e R s m args below meth c nL ad cy D ids A Qs n.1 ls st S
set_option maxHeartbeats 1000000 in
theorem aw_ok (X : aCx p s m args c cc nL on ad cy D ids A rk Zc) (hzo : aZok A Zc) (hR : R = aRm (d + 1)) (hMI : ∀ j, j < NM → aMok (MI j)) (hMT : ∀ q ∈ MT, aMTok MI q)
    (IH : ∀ j av S Q, j < NM → aW px MI tb d j av S Q → aMet l ad cy D ids A Zc MI d j av S Q) {rt : Option FieldType} (hr : meth.sig.returnType = rt) (hlocks : meth.locks = false) {Q : Value → aS → Prop} {code : List aE} {nx : Nat → aLs → List Value → aS → Prop}
    (hpx : aPx px ckp p l e R s m args below meth c cc nL on ad cy D ids A (MQ below (aQc ad cy D ids A Q) args s 0 0 A))
    (hnx : ∀ q ls st S, nx q ls st S → ∀ g, pcO (code.drop q) = some g → aWg p l e R s m args below meth c nL ad cy D ids A (MQ below (aQc ad cy D ids A Q) args s 0 0 A) g ls st S) :
    ∀ (t : List aE), ackL tb ckp MI NM MT cc on rk rt code t = true → ∀ (k : Nat) (f : Bool) (ls : aLs) (st : List Value) (S : aS), awp px tb (aW px MI tb d) Q nx t k f ls st S → ∀ g, pcO (t.drop k) = some g → aWg p l e R s m args below meth c nL ad cy D ids A (MQ below (aQc ad cy D ids A Q) args s 0 0 A) g ls st S := by
  have hx := X.1
  have hb := X.2.1
  have hml := X.2.2.1
  have hown := X.2.2.2.1
  have hts := X.2.2.2.2.1
  intro t
  induction t with
  | nil => intro _ k f ls st S h; exact h.elim
  | cons n t ih =>
    intro hck k f ls st S h g hg
    obtain ⟨hd, hck⟩ := (Bool.and_eq_true _ _).mp hck
    obtain ⟨hlen, hck⟩ := (Bool.and_eq_true _ _).mp hck
    obtain ⟨hcut, hck⟩ := (Bool.and_eq_true _ _).mp hck
    obtain ⟨hc, hckt⟩ := (Bool.and_eq_true _ _).mp hck
    replace hd := of_decide_eq_true hd
    replace hlen : aisT n.2.1 = false → n.2.2.1 = alen1 n.2.1 := by
      intro z
      rw [z, Bool.false_or] at hlen
      exact of_decide_eq_true hlen
    replace hcut := of_decide_eq_true hcut
    have ih := ih hckt
    cases k with
    | succ k => exact ih k f ls st S h g hg
    | zero =>
      have hg : n.1 = g := Option.some.inj hg
      subst hg
      replace h : cond (f || Nat.beq n.2.2.2.1 0) (astp px tb (aW px MI tb d) Q nx n (fun k => awp px tb (aW px MI tb d) Q nx t k false) ls st S) (nx (n.2.2.2.1 - 1) ls st S) := h
      cases hb0 : (f || Nat.beq n.2.2.2.1 0) with
      | false =>
        rw [hb0] at h
        have h0 : Nat.beq n.2.2.2.1 0 = false := by cases f <;> simp_all
        rcases hcut with z | z
        · rw [z] at h0; cases h0
        · exact hnx _ _ _ _ h _ z
      | true =>
        rw [hb0] at h
        replace h : astp px tb (aW px MI tb d) Q nx n (fun k => awp px tb (aW px MI tb d) Q nx t k false) ls st S := h
        have J : ∀ (off : Int), ackT code n t off = true → ∃ g : Nat, (n.1 : Int) + off = (g : Int) ∧ ∀ st' : List Value, ajp n nx (fun k => awp px tb (aW px MI tb d) Q nx t k false) ls st' S → aWg p l e R s m args below meth c nL ad cy D ids A (MQ below (aQc ad cy D ids A Q) args s 0 0 A) g ls st' S := by
          intro off hT
          obtain ⟨g, h1, h2⟩ := ackT_inv hT
          refine ⟨g, h2, fun st' z => ?_⟩
          unfold ajp at z
          split at z
          · rename_i hz
            rw [hz] at h1
            exact ih _ _ _ _ _ z _ h1
          · rename_i hz
            refine hnx _ _ _ _ z _ ?_
            split at h1
            · exact absurd ‹_› hz
            · exact h1
        cases hp : actl n.2.1 with
        | false =>
          obtain ⟨c1, c2⟩ := v_pureC hp hc
          cases h5 : Nat.ble 5000 n.2.2.2.2.1 with
          | true => rw [h5] at c2; exact hpx n ls st S (awp px tb (aW px MI tb d) Q nx t 0 false) hd (hlen (aisT_of hp)) h5 c2 ((v_apw (v_pure hp h)).1 h5) (fun ls' st' S' z => ih 0 false ls' st' S' z _ c1)
          | false => rw [h5] at c2; exact apw_ok (go := fun k => awp px tb (aW px MI tb d) Q nx t k false) X hd (hlen (aisT_of hp)) c2 ((v_apw (v_pure hp h)).2 h5) (fun ls' st' S' z => ih 0 false ls' st' S' z _ c1)
        | true =>
        obtain ⟨pc, i, len, cut, a, b, v, w⟩ := n
        dsimp only at hd hlen hcut J hp ⊢
        cases i with
        | ifCond cnd off =>
          obtain rfl : len = 3 := hlen rfl
          obtain ⟨c1, c2⟩ := (Bool.and_eq_true _ _).mp hc
          have c2 := of_decide_eq_true c2
          obtain ⟨g, hg1, hg2⟩ := J off c1
          have h' := v_ifCond h
          clear h
          obtain ⟨x, s9, rfl, h⟩ := h'
          · intro B H locs hl hP hS
            cases cnd with
            | eq => exact lv_if_eq hx hb hd hg1 (fun z => hg2 _ (h.1 z) B H locs hl hP hS) (fun z => ih _ _ _ _ _ (h.2 z) _ c2 B H locs hl hP hS)
            | ne => exact lv_if_ne hx hb hd hg1 (fun z => hg2 _ (h.1 z) B H locs hl hP hS) (fun z => ih _ _ _ _ _ (h.2 z) _ c2 B H locs hl hP hS)
            | lt => exact lv_if_lt hx hb hd hg1 (fun z => hg2 _ (h.1 z) B H locs hl hP hS) (fun z => ih _ _ _ _ _ (h.2 z) _ c2 B H locs hl hP hS)
            | ge => exact lv_if_ge hx hb hd hg1 (fun z => hg2 _ (h.1 z) B H locs hl hP hS) (fun z => ih _ _ _ _ _ (h.2 z) _ c2 B H locs hl hP hS)
            | gt => exact lv_if_gt hx hb hd hg1 (fun z => hg2 _ (h.1 z) B H locs hl hP hS) (fun z => ih _ _ _ _ _ (h.2 z) _ c2 B H locs hl hP hS)
            | le => exact lv_if_le hx hb hd hg1 (fun z => hg2 _ (h.1 z) B H locs hl hP hS) (fun z => ih _ _ _ _ _ (h.2 z) _ c2 B H locs hl hP hS)
        | if_icmp cnd off =>
          obtain rfl : len = 3 := hlen rfl
          obtain ⟨c1, c2⟩ := (Bool.and_eq_true _ _).mp hc
          have c2 := of_decide_eq_true c2
          obtain ⟨g, hg1, hg2⟩ := J off c1
          have h' := v_icmp h
          clear h
          obtain ⟨x, y, s9, rfl, h⟩ := h'
          · intro B H locs hl hP hS
            cases cnd with
            | eq => exact lv_icmp_eq hx hb hd hg1 (fun z => hg2 _ (h.1 z) B H locs hl hP hS) (fun z => ih _ _ _ _ _ (h.2 z) _ c2 B H locs hl hP hS)
            | ne => exact lv_icmp_ne hx hb hd hg1 (fun z => hg2 _ (h.1 z) B H locs hl hP hS) (fun z => ih _ _ _ _ _ (h.2 z) _ c2 B H locs hl hP hS)
            | lt => exact lv_icmp_lt hx hb hd hg1 (fun z => hg2 _ (h.1 z) B H locs hl hP hS) (fun z => ih _ _ _ _ _ (h.2 z) _ c2 B H locs hl hP hS)
            | ge => exact lv_icmp_ge hx hb hd hg1 (fun z => hg2 _ (h.1 z) B H locs hl hP hS) (fun z => ih _ _ _ _ _ (h.2 z) _ c2 B H locs hl hP hS)
            | gt => exact lv_icmp_gt hx hb hd hg1 (fun z => hg2 _ (h.1 z) B H locs hl hP hS) (fun z => ih _ _ _ _ _ (h.2 z) _ c2 B H locs hl hP hS)
            | le => exact lv_icmp_le hx hb hd hg1 (fun z => hg2 _ (h.1 z) B H locs hl hP hS) (fun z => ih _ _ _ _ _ (h.2 z) _ c2 B H locs hl hP hS)
        | if_acmp cnd off =>
          obtain rfl : len = 3 := hlen rfl
          obtain ⟨c1, c2⟩ := (Bool.and_eq_true _ _).mp hc
          have c2 := of_decide_eq_true c2
          obtain ⟨g, hg1, hg2⟩ := J off c1
          have h' := v_acmp h
          clear h
          obtain ⟨x, y, s9, rfl, h⟩ := h'
          obtain ⟨x1, x2, h⟩ := aGC h
          obtain ⟨y1, y2, h⟩ := aGC h
          have inj := X.2.2.2.2.2.2.2.2.2.2.2.2
          have hiff : some (ad x) = some (ad y) ↔ x = y := ⟨fun z => inj x y x1 x2 y1 y2 (Option.some.inj z), fun z => by rw [z]⟩
          intro B H locs hl hP hS
          cases cnd with
          | eq => exact lv_acmp_eq (rx := some (ad x)) (ry := some (ad y)) hx hb hd hg1 (fun z => hg2 _ (h.1 (hiff.mp z)) B H locs hl hP hS) (fun z => ih _ _ _ _ _ (h.2 (fun q => z (hiff.mpr q))) _ c2 B H locs hl hP hS)
          | ne => exact lv_acmp_ne (rx := some (ad x)) (ry := some (ad y)) hx hb hd hg1 (fun z => hg2 _ (h.1 (fun q => z (hiff.mpr q))) B H locs hl hP hS) (fun z => ih _ _ _ _ _ (h.2 (hiff.mp z)) _ c2 B H locs hl hP hS)
        | tableswitch df lo hi offs =>
          have h' := v_tsw h
          clear h
          obtain ⟨x, s9, rfl, h⟩ := h'
          obtain ⟨c1, c2⟩ := (Bool.and_eq_true _ _).mp hc
          obtain ⟨c3, c4, c5, c6⟩ := of_decide_eq_true c2
          dsimp only at c1 c3 c6 h
          have hgt := ackS_get _ 0 c1
          intro B H locs hl hP hS
          by_cases hin : x.toInt < lo ∨ hi < x.toInt
          · cases hg : pcO (code.drop b) with
            | none => rw [hg] at c6; cases c6
            | some g =>
              rw [hg] at c6
              refine lv_tableOut hx hb hd hin (Option.some.inj c6).symm ?_
              refine hnx _ _ _ _ (asw_none _ (fun q hq e => ?_) h) _ hg B H locs hl hP hS
              obtain ⟨i9, hi9⟩ := List.getElem?_of_mem hq
              obtain ⟨e1, -⟩ := hgt i9 q hi9
              have hlt := (List.getElem?_eq_some_iff.mp hi9).1
              rw [e] at hin
              rw [e1] at hin
              omega
          · have h1 : ¬ x.toInt < lo := fun z => hin (Or.inl z)
            have h2 : ¬ hi < x.toInt := fun z => hin (Or.inr z)
            have hlt : (x.toInt - lo).toNat < (tb a).length := by omega
            obtain ⟨q, hq⟩ : ∃ q, (tb a)[(x.toInt - lo).toNat]? = some q := ⟨_, List.getElem?_eq_getElem hlt⟩
            obtain ⟨e1, o, g, e2, e3, e4⟩ := hgt _ q hq
            rw [Nat.zero_add] at e1 e2
            have hxq : q.1 = x := by
              apply Int32.toInt_inj.mp
              rw [e1]
              omega
            refine lv_tableIn hx hb hd h1 h2 e2 e4 ?_
            refine hnx _ _ _ _ (asw_some _ _ q.2 (by rw [hq, ← hxq]) (fun j q' hj hq' e => ?_) h) _ e3 B H locs hl hP hS
            obtain ⟨e5, -⟩ := hgt j q' hq'
            rw [← e, ← hxq, e1] at e5
            omega
        | invokespecial x => cases hc
        | goto off =>
          obtain rfl : len = 3 := hlen rfl
          obtain ⟨g, hg1, hg2⟩ := J off hc
          intro B H locs hl hP hS
          exact lv_goto hx hb hd hg1 (hg2 _ (v_goto h) B H locs hl hP hS)
        | ireturn =>
          obtain rfl : len = 1 := hlen rfl
          have h' := v_iret h
          clear h
          obtain ⟨x, rfl, h⟩ := h'
          intro B H locs hl hP hS
          cases a with
          | zero => exact W.iret hx hb (hr.trans (of_decide_eq_true hc)) (fun t ht hW => ⟨⟨.int x, S, rfl, h.1 rfl, by rw [ht]; exact hP⟩, hS.F ht⟩) hS.2.2 hd hlocks
          | succ a => exact W.zret (ty := .boolean) hx hb (hr.trans (of_decide_eq_true hc)) (narrow_z (h.2 (Nat.succ_ne_zero _)).1) (fun t ht hW => ⟨⟨.int x, S, rfl, (h.2 (Nat.succ_ne_zero _)).2, by rw [ht]; exact hP⟩, hS.F ht⟩) hS.2.2 hd hlocks
        | lreturn =>
          obtain rfl : len = 1 := hlen rfl
          have h' := v_lret h
          clear h
          obtain ⟨x, rfl, h⟩ := h'
          intro B H locs hl hP hS
          exact W.lret hx hb (hr.trans (of_decide_eq_true hc)) (fun t ht hW => ⟨⟨.long x, S, rfl, h, by rw [ht]; exact hP⟩, hS.F ht⟩) hS.2.2 hd hlocks
        | areturn =>
          obtain rfl : len = 1 := hlen rfl
          have h' := v_aret h
          clear h
          obtain ⟨x, rfl, h⟩ := h'
          intro B H locs hl hP hS
          cases rt with
          | none => cases hc
          | some ty =>
            cases ty <;> first | exact W.aret hx hb hr (Or.inl ⟨_, rfl⟩) (Or.inr ⟨_, rfl⟩) (fun t ht hW => ⟨⟨.ref x, S, rfl, h, by rw [ht]; exact hP⟩, hS.F ht⟩) hS.2.2 hd hlocks | cases hc
        | return_ =>
          obtain rfl : len = 1 := hlen rfl
          have h' := v_vret h
          clear h
          obtain ⟨rfl, h⟩ := h'
          intro B H locs hl hP hS
          exact W.vret hx hb (hr.trans (of_decide_eq_true hc)) (fun t ht hW => ⟨⟨.null, S, rfl, h, by rw [ht]; exact hP⟩, hS.F ht⟩) hS.2.2 hd hlocks
        | invokevirtual i =>
          obtain rfl : len = 3 := hlen rfl
          have h' := v_inv h
          clear h
          dsimp only at h'
          cases h5 : Nat.ble 5000 a with
          | true =>
            rw [h5, cond_true] at h'
            have hc : cond (Nat.ble 5000 a) (decide (pcO t = some (pc + 3)) && ckp on (pc, .invokevirtual i, 3, cut, a, b, v, w)) _ = true := hc
            rw [h5] at hc
            obtain ⟨c1, c2⟩ := (Bool.and_eq_true _ _).mp hc
            exact hpx (pc, .invokevirtual i, 3, cut, a, b, v, w) ls st S (awp px tb (aW px MI tb d) Q nx t 0 false) hd rfl h5 c2 ((v_apw h').1 h5) (fun ls' st' S' z => ih 0 false ls' st' S' z _ (of_decide_eq_true c1))
          | false =>
          rw [h5, cond_false] at h'
          have hc : cond (Nat.ble 5000 a) _ (decide ((on, i, a) ∈ MT ∧ a < NM ∧ (MI a).2.2.2.2.2.1 ≠ 99 ∧ rk (MI a).2.2.2.2.2.1 = true ∧ b % 16 = (MI a).2.2.2.2.2.2.1 + 1 ∧ pcO t = some (pc + 3))) = true := hc
          rw [h5] at hc
          obtain ⟨c1, c2, c3, c4, c5, c6⟩ := of_decide_eq_true hc
          obtain ⟨b1, b2, h⟩ := v_acl h'
          dsimp only at b1 b2 h c1 c2 c3 c4 c5 c6
          · 
            have hM := IH _ _ _ _ c2 h
            cases d with
            | zero => exact h.elim
            | succ d' =>
              unfold aW at h
              have h9 := aif_out h
              unfold arc at h9
              split at h9
              · rename_i hz
                exact absurd (Nat.eq_of_beq_eq_true hz) c3
              · split at h9
                · rename_i b0 As hrev
                  obtain ⟨k1, -⟩ := aGK h9
                  have hst : st = As.reverse ++ .ref b0 :: st.drop (b % 16) := by
                    have e1 : st.take (b % 16) = As.reverse ++ [.ref b0] := by
                      have := congrArg List.reverse hrev
                      rw [List.reverse_reverse, List.reverse_cons] at this
                      exact this
                    have e2 := (List.take_append_drop (b % 16) st).symm
                    rw [e1, List.append_assoc] at e2
                    exact e2
                  have hal : As.length = (MI a).2.2.2.2.2.2.1 := by
                    have := congrArg List.length hrev
                    rw [List.length_reverse, List.length_take, Nat.min_eq_left b2, List.length_cons, c5] at this
                    omega
                  rw [hrev] at hM
                  intro B H locs hl hP hS
                  have hmp : st.map (atv ad) = (As.map (atv ad)).reverse ++ .ref (ad b0) :: (st.drop (b % 16)).map (atv ad) := by
                    conv => lhs; rw [hst]
                    rw [List.map_append, List.map_cons, List.map_reverse]
                    rfl
                  rw [hmp]
                  exact r_callV X hzo hR (hMI a c2) c3 (hMT _ c1) hal k1 c4 hM hd b1 hl hP hS (fun v S' H1 locs1 q1 q2 q3 => by
                    obtain ⟨w, hw, ew⟩ := aro_cat (ad := ad) q1
                    rw [ew, ← List.map_append]
                    exact ih _ _ _ _ _ hw _ c6 B H1 locs1 hl q2 q3)
                · exact h9.elim
        | invokestatic i =>
          obtain rfl : len = 3 := hlen rfl
          have h' := v_ins h
          clear h
          dsimp only at h'
          cases h5 : Nat.ble 5000 a with
          | true =>
            rw [h5, cond_true] at h'
            have hc : cond (Nat.ble 5000 a) (decide (pcO t = some (pc + 3)) && ckp on (pc, .invokestatic i, 3, cut, a, b, v, w)) _ = true := hc
            rw [h5] at hc
            obtain ⟨c1, c2⟩ := (Bool.and_eq_true _ _).mp hc
            exact hpx (pc, .invokestatic i, 3, cut, a, b, v, w) ls st S (awp px tb (aW px MI tb d) Q nx t 0 false) hd rfl h5 c2 ((v_apw h').1 h5) (fun ls' st' S' z => ih 0 false ls' st' S' z _ (of_decide_eq_true c1))
          | false =>
          rw [h5, cond_false] at h'
          have hc : cond (Nat.ble 5000 a) _ (decide ((on, i, a) ∈ MT ∧ a < NM ∧ (MI a).2.2.2.2.2.1 = 99 ∧ b % 16 = (MI a).2.2.2.2.2.2.1 ∧ pcO t = some (pc + 3))) = true := hc
          rw [h5] at hc
          obtain ⟨c1, c2, c3, c4, c6⟩ := of_decide_eq_true hc
          obtain ⟨b1, b2, h⟩ := v_acl h'
          dsimp only at b1 b2 h
          have hM := IH _ _ _ _ c2 h
          have hmp : st.map (atv ad) = (((st.take (b % 16)).reverse).map (atv ad)).reverse ++ (st.drop (b % 16)).map (atv ad) := by
            rw [List.map_reverse, List.reverse_reverse, ← List.map_append, List.take_append_drop]
          intro B H locs hl hP hS
          rw [hmp]
          exact r_callS X hzo hR (hMI a c2) c3 (hMT _ c1) (by rw [List.length_reverse, List.length_take, Nat.min_eq_left b2, c4]) hM hd b1 hl hP hS (fun v S' H1 locs1 q1 q2 q3 => by
            obtain ⟨w, hw, ew⟩ := aro_cat (ad := ad) q1
            rw [ew, ← List.map_append]
            exact ih _ _ _ _ _ hw _ c6 B H1 locs1 hl q2 q3)
        | _ => cases hp
end
end
section
/-! a method of the small machine is one of the true machine -/
theorem apr_none (ad : Nat → Nat) : ∀ (k b : Nat), apr ad b (List.replicate k none) = []
  | 0, _ => rfl
  | k + 1, b => apr_none ad k (b + 1)
theorem apr_args (ad : Nat → Nat) (k : Nat) : ∀ (av : List Value) (b : Nat), apr ad b (alE av ++ List.replicate k none) = lv_args b (av.map (atv ad)) := by
  intro av
  induction av with
  | nil => intro b; exact apr_none ad k b
  | cons v t ih =>
    intro b
    show apr ad b (cond (acat2 v) (some v :: none :: alE t) (some v :: alE t) ++ _) = (b, atv ad v) :: lv_args (if (atv ad v).category = 2 then b + 2 else b + 1) (t.map (atv ad))
    rw [atv_cat]
    cases hc : acat2 v with
    | true =>
      rw [acat2_cat] at hc
      rw [if_pos (eq_of_beq hc)]
      show (b, atv ad v) :: apr ad (b + 2) (alE t ++ _) = _
      rw [ih]
    | false =>
      rw [acat2_cat] at hc
      rw [if_neg (fun z => by rw [z] at hc; cases hc)]
      show (b, atv ad v) :: apr ad (b + 1) (alE t ++ _) = _
      rw [ih]
theorem alE_len (ad : Nat → Nat) : ∀ (av : List Value), (lg_sl (av.map (atv ad))).length = (alE av).length := by
  intro av
  induction av with
  | nil => rfl
  | cons v t ih =>
    show ((if (atv ad v).category = 2 then [Slot.val (atv ad v), .second] else [.val (atv ad v)]) ++ lg_sl (t.map (atv ad))).length = (cond (acat2 v) (some v :: none :: alE t) (some v :: alE t)).length
    rw [atv_cat, List.length_append, ih]
    cases hc : acat2 v with
    | true =>
      rw [acat2_cat] at hc
      rw [if_pos (eq_of_beq hc)]
      simp
      omega
    | false =>
      rw [acat2_cat] at hc
      rw [if_neg (fun z => by rw [z] at hc; cases hc)]
      simp
      omega
theorem amk_get : ∀ (ls : aLs) (m i : Nat) (v : Value), (amk m ls)[i]? = some (some v) → ls[i]? = some (some v) := by
  intro ls
  induction ls with
  | nil => intro m i v h; exact h
  | cons x t ih =>
    intro m i v h
    cases i with
    | zero =>
      have h : some (cond (Nat.beq (m % 2) 1) x none) = some (some v) := h
      cases hb : Nat.beq (m % 2) 1 with
      | true => rw [hb] at h; exact h
      | false => rw [hb] at h; cases h
    | succ i => exact ih _ i v h
theorem amk_len : ∀ (ls : aLs) (m : Nat), (amk m ls).length = ls.length := by
  intro ls
  induction ls with
  | nil => intro m; rfl
  | cons x t ih => intro m; show (amk (m / 2) t).length + 1 = t.length + 1; rw [ih]
theorem aHas.mk {ad : Nat → Nat} {A : Array Slot} {nL : Nat} {ls : aLs} (m : Nat) (h : aHas ad A nL ls) : aHas ad A nL (amk m ls) := by
  refine ⟨by rw [amk_len]; exact h.1, h.2.1, h.2.2.1, fun q hq => h.2.2.2 q ?_⟩
  obtain ⟨i, v, h1, h2⟩ := (apr_mem _ _ _).mp hq
  exact (apr_mem _ _ _).mpr ⟨i, v, amk_get _ _ _ _ h1, h2⟩
theorem ackL_drop {tb : Nat → List (Int32 × Nat)} {ckp : Nat → aE → Bool} {MI : Nat → aMI} {NM : Nat} {MT : List (Nat × Nat × Nat)} {cc : ByteArray} {on : Nat} {rk : Nat → Bool} {rt : Option FieldType} {code : List aE} : ∀ (t : List aE) (q : Nat), ackL tb ckp MI NM MT cc on rk rt code t = true → ackL tb ckp MI NM MT cc on rk rt code (t.drop q) = true := by
  intro t
  induction t with
  | nil => intro q h; rw [List.drop_nil]; exact h
  | cons n t ih =>
    intro q h
    cases q with
    | zero => exact h
    | succ q =>
      obtain ⟨-, h⟩ := (Bool.and_eq_true _ _).mp h
      obtain ⟨-, h⟩ := (Bool.and_eq_true _ _).mp h
      obtain ⟨-, h⟩ := (Bool.and_eq_true _ _).mp h
      obtain ⟨-, h⟩ := (Bool.and_eq_true _ _).mp h
      exact ih q h
theorem metF {l : Launch} {y : MethodName} {ws ws' : List Cond} {rm : Room} {Pc : Array Value → State → Prop} {Qc : Array Value → State → Outcome → State → Prop} {mc ms : Nat} {free : Addr → Prop} {cc : ByteArray} {maxL : Nat} {ret : Option FieldType}
    (hy : plainFor y = true) (hw : ws = Cond.code y cc maxL ret :: ws')
    (body : ∀ p e s m args below meth c s₁, BodyLoose p l y (headSpec ws rm) cc maxL ret e s m args below meth c s₁ → c.maxLocals = maxL → Pc args s →
      W p l e (headSpec ws rm).room s m args below meth c s.heap [] 0 0 (MQ below Qc args s mc ms free) (entryFrame m args maxL)) : Met l y ws rm Pc Qc mc ms free := by
  refine MetFree.of_bodySF (code := cc) (maxLocals := maxL) (ret := ret) hy ?_ ?_
  · intro args s m h hn
    obtain ⟨meth, c, h1, h2, h3, h4, h5, h6, -, -⟩ := Cond.code_spec hn (atoms_spec (ws := ws) h _ (by rw [hw]; exact List.mem_cons_self))
    exact ⟨meth, c, h1, h2, h3, h4, h5, h6⟩
  · intro p e s m args below meth c s₁ B hml hP _
    have hh0 : s₁.heap = s.heap := by rw [B.state]; rfl
    obtain ⟨t, a1, o, b1, b2, b3⟩ := body p e s m args below meth c s₁ B hml hP s₁ hh0 (Stand.of_body B)
    exact ⟨t, o, a1, b1, b2, ⟨b3.1, b3.2⟩⟩
theorem a_met {l : Launch} {ad : Nat → Nat} {cy : Nat → ClassId} {D : va_G} {ids : List Nat} {A : Nat → Prop} {rk : Nat → Bool} {Zc : State → Prop} {MI : Nat → aMI} {px : aE → aLs → List Value → aS → aT} {tb : Nat → List (Int32 × Nat)} {ckp : Nat → aE → Bool} {NM : Nat} {MT : List (Nat × Nat × Nat)}
    (hzo : aZok A Zc) (hMI : ∀ j, j < NM → aMok (MI j)) (hMT : ∀ q ∈ MT, aMTok MI q) (hck : ∀ j, j < NM → ackL tb ckp MI NM MT (MI j).2.1 (MI j).2.2.2.2.1 rk (MI j).2.2.2.1 (MI j).2.2.2.2.2.2.2.2 (MI j).2.2.2.2.2.2.2.2 = true ∧ pcO (MI j).2.2.2.2.2.2.2.2 = some 0)
    (hn : ids.Nodup) (hA : ∀ i ∈ ids, A (ad i)) (hi : ∀ i j, i ∈ ids → j ∈ ids → ad i = ad j → i = j) (hreg : ∀ i k, akd i = k → rk k = true → i ∈ ids) (had : ∀ x y, 2000 ≤ x → x ≤ 2099 → 2000 ≤ y → y ≤ 2099 → ad x = ad y → x = y)
    (hpx : ∀ (p : Program) (e : Env) (s : State) (m : MethodId) (args : Array Value) (below : List Frame) (meth : Method) (c : Code) (cc : ByteArray) (nL on d : Nat) (Qs : State → Prop), aCx p s m args c cc nL on ad cy D ids A rk Zc → aPx px ckp p l e (aRm (d + 1)) s m args below meth c cc nL on ad cy D ids A Qs) :
    ∀ (d j : Nat) (av : List Value) (S : aS) (Q : Value → aS → Prop), j < NM → aW px MI tb d j av S Q → aMet l ad cy D ids A Zc MI d j av S Q := by
  intro d
  induction d with
  | zero => intro j av S Q _ h; exact h.elim
  | succ d ih =>
    intro j av S Q hj h
    unfold aW at h
    have hfit := Nat.le_of_ble_eq_true (aif_tr h)
    have h1 := arc_out (aif_out h)
    obtain ⟨m1, m2, m3, m4, m5, m6, m7, m8, m9⟩ := hMI j hj
    unfold aMet
    refine metF (cc := (MI j).2.1) (maxL := (MI j).2.2.1) (ret := (MI j).2.2.2.1) m1 rfl ?_
    intro p e s m args below meth c s₁ B hml hv
    obtain ⟨hargs, hP, hK, hN, hZ⟩ := hv
    subst hargs
    have hts := atoms_spec B.pre
    have X : aCx p s m (av.map (atv ad)).toArray c (MI j).2.1 (MI j).2.2.1 (MI j).2.2.2.2.1 ad cy D ids A rk Zc :=
      ⟨B.exec, B.bytes, hml, by rw [← m2]; exact findClass_of_methodNamed B.named, fun w hw => hts w (List.mem_cons_of_mem _ hw), hN, hK, hn, hA, hi, hreg, hZ, had⟩
    rw [lg_entry_eq]
    have hl := lv_entry (av.map (atv ad)) (n := (MI j).2.2.1) (by rw [alE_len]; exact hfit)
    have hl' : aHas ad ((lg_sl (av.map (atv ad)) ++ List.replicate ((MI j).2.2.1 - (lg_sl (av.map (atv ad))).length) Slot.unset).toArray) (MI j).2.2.1 (alc av (MI j).2.2.1) := by
      refine ⟨?_, ?_⟩
      · unfold alc
        rw [List.length_append, List.length_replicate]
        omega
      · unfold alc
        rw [apr_args]
        exact hl
    refine h1 (fun q ls st S => ∀ g, pcO ((MI j).2.2.2.2.2.2.2.2.drop q) = some g → aWg p l e (aRm (d + 1)) s m (av.map (atv ad)).toArray below meth c (MI j).2.2.1 ad cy D ids A (MQ below (aQc ad cy D ids A Q) (av.map (atv ad)).toArray s 0 0 A) g ls st S) ?_ 0 (hck j hj).2 _ s.heap [] hl' hP va_S.rf
    intro q ls st S hw g hg
    exact aw_ok X hzo rfl hMI hMT ih B.returns B.notSynchronized (hpx _ _ _ _ _ _ _ _ _ _ _ _ _ X) (fun q ls st S z g hg B H locs hl => z g hg B H locs (aHas.mk _ hl)) _ (ackL_drop _ q (hck j hj).1) 0 true ls st S hw g hg
end
section
/-! steps that are calls of Math.max and Math.min -/
def pxm (e : aE) (ls : aLs) (st : List Value) (S : aS) : aT := pII st fun x y r => cond (Nat.beq e.2.2.2.2.1 5000) (aok ls (.int (if x < y then y else x) :: r) S) (cond (Nat.beq e.2.2.2.2.1 5001) (aok ls (.int (if y < x then y else x) :: r) S) none)
/-- a call's rest: what lies below the arguments is small -/
def acr (st : List Value) (k : Nat) : Bool := Nat.ble (acs (st.drop k)) 8
def pxM (e : aE) (ls : aLs) (st : List Value) (S : aS) : aT := match e.2.1 with
  | .invokestatic _ => cond (acr st 2) (pxm e ls st S) none
  | _ => none
theorem lmax_0 : Cond.methodLink (aCN 0) 48 Lib.Math.max.name ∈ aWS := aW_t 812 (by decide +kernel) (by decide +kernel)
theorem lmax_1 : Cond.methodLink (aCN 4) 50 Lib.Math.max.name ∈ aWS := aW_t 739 (by decide +kernel) (by decide +kernel)
theorem lmax_2 : Cond.methodLink (aCN 5) 209 Lib.Math.max.name ∈ aWS := aW_t 612 (by decide +kernel) (by decide +kernel)
theorem lmax_3 : Cond.methodLink (aCN 6) 107 Lib.Math.max.name ∈ aWS := aW_t 813 (by decide +kernel) (by decide +kernel)
theorem lmax_4 : Cond.methodLink (aCN 11) 360 Lib.Math.max.name ∈ aWS := aW_t 1660 (by decide +kernel) (by decide +kernel)
def lmaxT : List (Nat × Nat) := [(0, 48), (4, 50), (5, 209), (6, 107), (11, 360)]
theorem lmaxT_ok : ∀ q ∈ lmaxT, Cond.methodLink (aCN q.1) q.2 Lib.Math.max.name ∈ aWS := List.forall_mem_cons.mpr ⟨lmax_0, List.forall_mem_cons.mpr ⟨lmax_1, List.forall_mem_cons.mpr ⟨lmax_2, List.forall_mem_cons.mpr ⟨lmax_3, List.forall_mem_cons.mpr ⟨lmax_4, fun _ h => absurd h List.not_mem_nil⟩⟩⟩⟩⟩
theorem lmin_0 : Cond.methodLink (aCN 0) 42 Lib.Math.min.name ∈ aWS := aW_t 811 (by decide +kernel) (by decide +kernel)
theorem lmin_1 : Cond.methodLink (aCN 4) 44 Lib.Math.min.name ∈ aWS := aW_t 736 (by decide +kernel) (by decide +kernel)
theorem lmin_2 : Cond.methodLink (aCN 6) 115 Lib.Math.min.name ∈ aWS := aW_t 871 (by decide +kernel) (by decide +kernel)
theorem lmin_3 : Cond.methodLink (aCN 8) 85 Lib.Math.min.name ∈ aWS := aW_t 906 (by decide +kernel) (by decide +kernel)
theorem lmin_4 : Cond.methodLink (aCN 11) 400 Lib.Math.min.name ∈ aWS := aW_t 1716 (by decide +kernel) (by decide +kernel)
def lminT : List (Nat × Nat) := [(0, 42), (4, 44), (6, 115), (8, 85), (11, 400)]
theorem lminT_ok : ∀ q ∈ lminT, Cond.methodLink (aCN q.1) q.2 Lib.Math.min.name ∈ aWS := List.forall_mem_cons.mpr ⟨lmin_0, List.forall_mem_cons.mpr ⟨lmin_1, List.forall_mem_cons.mpr ⟨lmin_2, List.forall_mem_cons.mpr ⟨lmin_3, List.forall_mem_cons.mpr ⟨lmin_4, fun _ h => absurd h List.not_mem_nil⟩⟩⟩⟩⟩
def ckpM (on : Nat) (n : aE) : Bool := match n.2.1 with
  | .invokestatic i => decide ((n.2.2.2.2.1 = 5000 ∧ (on, i) ∈ lmaxT) ∨ (n.2.2.2.2.1 = 5001 ∧ (on, i) ∈ lminT))
  | _ => false
section
variable {p : Program} {l : Launch} {e : Env} {s : State} {m : MethodId} {args : Array Value} {below : List Frame} {meth : Method} {c : Code} {cc : ByteArray} {nL on : Nat} {ad : Nat → Nat} {cy : Nat → ClassId} {D : va_G} {ids : List Nat} {A : Nat → Prop} {rk : Nat → Bool} {Zc : State → Prop} {Qs : State → Prop} {d : Nat}
theorem pxm_ok (X : aCx p s m args c cc nL on ad cy D ids A rk Zc) {pc i len cut a b : Nat} {v : Int32} {w : Int64} {ls : aLs} {st : List Value} {S : aS} {Z : aLs → List Value → aS → Prop} (hd : decode cc pc = .ok (.invokestatic i, len)) (hlen : len = 3) (hk : (a = 5000 ∧ (on, i) ∈ lmaxT) ∨ (a = 5001 ∧ (on, i) ∈ lminT)) (hs : acs (st.drop 2) ≤ 100)
    (h : aTP (pxm (pc, .invokestatic i, len, cut, a, b, v, w) ls st S) Z) (hgo : ∀ ls' st' S', Z ls' st' S' → aWg p l e (aRm (d + 1)) s m args below meth c nL ad cy D ids A Qs (pc + len) ls' st' S') : aWg p l e (aRm (d + 1)) s m args below meth c nL ad cy D ids A Qs pc ls st S := by
  have hx := X.1
  have hb := X.2.1
  have hml := X.2.2.1
  have hown := X.2.2.2.1
  have hts := X.2.2.2.2.1
  subst hlen
  obtain ⟨x, y, r, rfl, h⟩ := pII_inv h
  intro B H locs hl hP hS
  have hlo : ((r.map (atv ad)).map fun v => v.category).sum + 13 ≤ (aRm (d + 1)).locals := by
    rw [acs_map]
    have : acs r ≤ 100 := hs
    show acs r + 13 ≤ 120 * (d + 1 + 5)
    omega
  have hfr : 1 ≤ (aRm (d + 1)).frames := by show 1 ≤ d + 1 + 5; omega
  have hB : c.maxLocals = B.size := hml.trans hl.2.1.symm
  rcases hk with ⟨rfl, hk⟩ | ⟨rfl, hk⟩
  · exact va_mmax hx hb hB hown (hts _ (lmaxT_ok _ hk)) (hts _ aM_max_s) (hts _ aM_i) (hts _ aM_max_c) hfr hlo (Nat.zero_le _) (Nat.zero_le _) hd (hgo _ _ _ h B H locs hl hP hS)
  · exact va_mmin hx hb hB hown (hts _ (lminT_ok _ hk)) (hts _ aM_min_s) (hts _ aM_i) (hts _ aM_min_c) hfr hlo (Nat.zero_le _) (Nat.zero_le _) hd (hgo _ _ _ h B H locs hl hP hS)
theorem pxM_ok (X : aCx p s m args c cc nL on ad cy D ids A rk Zc) : aPx pxM ckpM p l e (aRm (d + 1)) s m args below meth c cc nL on ad cy D ids A Qs := by
  intro n ls st S Z hd hlen h5 hk h hgo
  obtain ⟨pc, i, len, cut, a, b, v, w⟩ := n
  dsimp only at hd hlen h5 hgo ⊢
  cases i with
  | invokestatic i =>
    have hk := of_decide_eq_true hk
    have h : aTP (cond (acr st 2) (pxm (pc, .invokestatic i, len, cut, a, b, v, w) ls st S) none) Z := h
    cases hc : acr st 2 with
    | true => rw [hc] at h; exact pxm_ok X hd hlen hk (Nat.le_trans (Nat.le_of_ble_eq_true hc) (by decide)) h hgo
    | false => rw [hc] at h; exact h.elim
  | _ => cases hk
end

def rkM (k : Nat) : Bool := Nat.beq k 11 || (Nat.ble 30 k && Nat.ble k 39)
end
section
/-! the class: its further steps, its methods as rows of the small machine, by a program out of its bytecode -/
def rkX (k : Nat) : Bool := Nat.ble k 10 || (Nat.ble 20 k && Nat.ble k 29)
/-- the texts: how long, their signs -/
def ast (s : Nat) : List Int32 := cond (Nat.ble s 2219) (cond (Nat.ble s 2209) (cond (Nat.ble s 2204) (cond (Nat.ble s 2201) (cond (Nat.ble s 2200) ([]) ([])) (cond (Nat.ble s 2202) ([]) (cond (Nat.ble s 2203) ([]) ([119, 114, 105, 116, 101, 114])))) (cond (Nat.ble s 2206) (cond (Nat.ble s 2205) ([119, 111, 114, 100]) ([102, 111, 108, 100])) (cond (Nat.ble s 2207) ([119, 101, 105, 103, 104, 116]) (cond (Nat.ble s 2208) ([103, 111, 111, 100]) ([108, 101, 102, 116]))))) (cond (Nat.ble s 2214) (cond (Nat.ble s 2211) (cond (Nat.ble s 2210) ([108, 105, 107, 101, 115]) ([99, 108, 97, 115, 104])) (cond (Nat.ble s 2212) ([102, 111, 108, 100, 115]) (cond (Nat.ble s 2213) ([119, 114, 105, 116, 101, 115]) ([100, 111, 101, 115])))) (cond (Nat.ble s 2216) (cond (Nat.ble s 2215) ([119, 114, 105, 116, 101]) ([98, 117, 114, 110])) (cond (Nat.ble s 2217) ([112, 97, 115, 115]) (cond (Nat.ble s 2218) ([112, 108, 97, 105, 110]) ([119, 105, 115, 101])))))) (cond (Nat.ble s 2229) (cond (Nat.ble s 2224) (cond (Nat.ble s 2221) (cond (Nat.ble s 2220) ([119, 105, 108, 100]) ([115, 108, 121])) (cond (Nat.ble s 2222) ([110, 111, 116]) (cond (Nat.ble s 2223) ([97, 110, 100]) ([111, 114])))) (cond (Nat.ble s 2226) (cond (Nat.ble s 2225) ([40]) ([41])) (cond (Nat.ble s 2227) ([60]) (cond (Nat.ble s 2228) ([61]) ([43]))))) (cond (Nat.ble s 2241) (cond (Nat.ble s 2231) (cond (Nat.ble s 2230) ([45]) ([42])) (cond (Nat.ble s 2232) ([59]) (cond (Nat.ble s 2240) ([104, 101, 97, 118, 121]) ([102, 111, 110, 100])))) (cond (Nat.ble s 2244) (cond (Nat.ble s 2242) ([115, 109, 97, 108, 108]) (cond (Nat.ble s 2243) ([109, 111, 114, 101]) ([97, 104, 101, 97, 100]))) (cond (Nat.ble s 2245) ([115, 117, 109]) (cond (Nat.ble s 2246) ([109, 111, 115, 116]) ([115, 112, 105, 107, 101, 100]))))))
def asl (s : Nat) : Nat := (ast s).length
def asc (s k : Nat) : Int32 := (ast s).getD k 0
/-- the switch map -/
def asmL : List Int32 := [0, 0, 0, 0, 1, 2, 0, 0, 0, 0, 3, 4, 5, 6, 7, 0, 0, 0, 8, 9, 10, 11, 0, 0, 0, 0, 0, 0, 0, 0, 0, 0, 0]
def asm (k : Nat) : Int32 := asmL.getD k 0
def gE (x : Nat) : Option Prop := cond (Nat.ble 2000 x && Nat.ble x 2032) none (some (2000 ≤ x ∧ x ≤ 2032))
/-- a part of a row copied to another -/
def scp (S : aS) (x : Nat) (sp : Int32) (y : Nat) (dp n : Int32) : aS := (S.1, S.2.1, S.2.2.1, va_up S.2.2.2.1 y (va_cpy (S.2.2.2.1 x) (S.2.2.2.1 y) sp.toNatClampNeg dp.toNatClampNeg n.toNatClampNeg), S.2.2.2.2)
def acpG (x : Nat) (sp : Int32) (y : Nat) (dp n : Int32) : Prop := akd y = 20 ∧ ¬ sp < 0 ∧ ¬ dp < 0 ∧ ¬ n < 0 ∧ sp.toNatClampNeg + n.toNatClampNeg ≤ aln x ∧ dp.toNatClampNeg + n.toNatClampNeg ≤ aln y
def pcp (st : List Value) (k : Nat → Int32 → Nat → Int32 → Int32 → List Value → aT) : aT := match st with
  | .int n :: .int dp :: .ref y :: .int sp :: .ref x :: r => k x sp y dp n r
  | _ => none
def pxX (e : aE) (ls : aLs) (st : List Value) (S : aS) : aT := match e.2.1 with
  | .invokestatic _ => cond (Nat.beq e.2.2.2.2.1 5002) (cond (acr st 5) (pcp st fun x sp y dp n r => some (gK x 20, some (acpG x sp y dp n), ls, r, scp S x sp y dp n)) none) (cond (acr st 2) (pxm e ls st S) none)
  | .invokevirtual _ => cond (Nat.beq e.2.2.2.2.1 5003) (cond (acr st 1) (pR st fun x r => agd (2200 ≤ x ∧ x ≤ 2299) ls (.int (Int32.ofNat (asl x)) :: r) S) none) (cond (Nat.beq e.2.2.2.2.1 5004) (cond (acr st 2) (pRI st fun x i r => agd ((2200 ≤ x ∧ x ≤ 2299) ∧ vp_in i (asl x)) ls (.int (asc x i.toNatClampNeg) :: r) S) none) (cond (Nat.beq e.2.2.2.2.1 5005) (cond (acr st 1) (pR st fun x r => some (gE x, none, ls, .int (Int32.ofNat (x - 2000)) :: r, S)) none) none))
  | .getstatic _ => aok ls (.ref e.2.2.2.2.2.1 :: st) S
  | .ldc _ => aok ls (.ref e.2.2.2.2.2.1 :: st) S
  | .getfield _ => pR st fun x r => some (gE x, none, ls, .ref (x + 200) :: r, S)
  | .aaload => pRI st fun x i r => cond (Nat.beq x 2100) (agd (vp_in i 33) ls (.ref (2000 + i.toNatClampNeg) :: r) S) none
  | .arraylength => pR st fun x r => cond (Nat.beq x 2100) (aok ls (.int 33 :: r) S) none
  | .iaload => pRI st fun x i r => cond (Nat.beq x 2101) (agd (vp_in i 33) ls (.int (asm i.toNatClampNeg) :: r) S) none
  | _ => none
def lkX : List (Nat × Nat × Nat × Nat) := [(1, 19, 5010, 2023), (1, 31, 5010, 2024), (1, 46, 5010, 2027), (1, 49, 5010, 2028), (1, 55, 5010, 2029), (1, 58, 5010, 2030), (1, 64, 5010, 2031), (1, 78, 5010, 2002), (1, 81, 5010, 2022), (1, 84, 5010, 2025), (1, 104, 5010, 2026), (1, 107, 5010, 2003), (1, 117, 5015, 2240), (1, 123, 5015, 2241), (1, 125, 5015, 2242), (1, 127, 5015, 2243), (1, 129, 5015, 2244), (1, 131, 5015, 2245), (1, 133, 5015, 2246), (1, 135, 5015, 2247), (3, 99, 5002, 0), (4, 53, 5002, 0), (5, 38, 5010, 2000), (5, 48, 5010, 2101), (5, 56, 5005, 0), (5, 91, 5010, 2032), (5, 130, 5010, 2006), (5, 140, 5010, 2007), (5, 146, 5010, 2008), (5, 152, 5010, 2009), (5, 165, 5010, 2003), (5, 228, 5010, 2015), (5, 231, 5010, 2016), (5, 234, 5010, 2017), (5, 239, 5010, 2002), (8, 24, 5002, 0), (9, 15, 5010, 2000), (9, 69, 5010, 2001), (9, 72, 5010, 2002), (9, 75, 5010, 2100), (9, 79, 5011, 0), (9, 87, 5010, 2003), (9, 90, 5003, 0), (9, 95, 5004, 0)]
def ckpX (on : Nat) (n : aE) : Bool := match n.2.1 with
  | .invokestatic i => decide (((n.2.2.2.2.1 = 5000 ∧ (on, i) ∈ lmaxT) ∨ (n.2.2.2.2.1 = 5001 ∧ (on, i) ∈ lminT)) ∨ (n.2.2.2.2.1 = 5002 ∧ (on, i, 5002, 0) ∈ lkX))
  | .invokevirtual i => decide ((on, i, n.2.2.2.2.1, 0) ∈ lkX)
  | .getstatic i => decide (n.2.2.2.2.1 = 5010 ∧ (on, i, 5010, n.2.2.2.2.2.1) ∈ lkX)
  | .ldc i => decide (n.2.2.2.2.1 = 5015 ∧ (on, i, 5015, n.2.2.2.2.2.1) ∈ lkX)
  | .getfield i => decide (n.2.2.2.2.1 = 5011 ∧ (on, i, 5011, 0) ∈ lkX)
  | .aaload => decide (n.2.2.2.2.1 = 5012)
  | .arraylength => decide (n.2.2.2.2.1 = 5013)
  | .iaload => decide (n.2.2.2.2.1 = 5014)
  | _ => false
end
section
/-! the class's further steps are those of the true machine -/
def aSn (i : Nat) : String := (["END", "NOTHING", "NUMBER", "NAME", "WRITER", "WORD", "FOLD", "WEIGHT", "GOOD", "LEFT", "LIKES", "CLASH", "FOLDS", "WRITES", "DOES", "WRITE", "BURN", "PASS", "PLAIN", "WISE", "WILD", "SLY", "NOT", "AND", "OR", "OPEN", "CLOSE", "LESS", "SAME", "PLUS", "MINUS", "TIMES", "STOP"] : List String).getD i ""
def aStF (v : Nat) : String × String × String := if v = 2100 then (RX12, "SORTS", "[LFoldedRealm$Sort;") else if v = 2101 then (RX0, "$SwitchMap$FoldedRealm$Sort", "[I") else (RX9, aSn (v - 2000), "LFoldedRealm$Sort;")
def ySl : MethodName := ⟨"java/lang/String", "length", "()I"⟩
def ySc : MethodName := ⟨"java/lang/String", "charAt", "(I)C"⟩
def ySo : MethodName := ⟨"FoldedRealm$Sort", "ordinal", "()I"⟩
def lkOk (q : Nat × Nat × Nat × Nat) : Prop :=
  (q.2.2.1 = 5010 → (Cond.fieldLink (aCN q.1) q.2.1 (aStF q.2.2.2).1 (aStF q.2.2.2).2.1 (aStF q.2.2.2).2.2 ∈ aWS ∨ Cond.fieldLinkNest (aCN q.1) q.2.1 (aStF q.2.2.2).1 (aStF q.2.2.2).2.1 (aStF q.2.2.2).2.2 RX12 ∈ aNW) ∧ (q.2.2.2 = 2100 ∨ q.2.2.2 = 2101 ∨ (2000 ≤ q.2.2.2 ∧ q.2.2.2 ≤ 2032))) ∧
  (q.2.2.1 = 5011 → Cond.fieldLink (aCN q.1) q.2.1 RX9 "text" "Ljava/lang/String;" ∈ aWS ∨ Cond.fieldLinkNest (aCN q.1) q.2.1 RX9 "text" "Ljava/lang/String;" RX12 ∈ aNW) ∧
  (q.2.2.1 = 5002 → Cond.methodLink (aCN q.1) q.2.1 arraycopyName ∈ aWS) ∧ (q.2.2.1 = 5003 → Cond.methodLink (aCN q.1) q.2.1 ySl ∈ aWS) ∧ (q.2.2.1 = 5004 → Cond.methodLink (aCN q.1) q.2.1 ySc ∈ aWS) ∧ (q.2.2.1 = 5005 → Cond.methodLink (aCN q.1) q.2.1 ySo ∈ aWS)
theorem lkX_0 : lkOk (1, 19, 5010, 2023) := ⟨fun _ => ⟨Or.inl (aW_t 695 (by decide +kernel) (by decide +kernel)), by decide⟩, fun h => absurd h (by decide), fun h => absurd h (by decide), fun h => absurd h (by decide), fun h => absurd h (by decide), fun h => absurd h (by decide)⟩
theorem lkX_1 : lkOk (1, 31, 5010, 2024) := ⟨fun _ => ⟨Or.inl (aW_t 697 (by decide +kernel) (by decide +kernel)), by decide⟩, fun h => absurd h (by decide), fun h => absurd h (by decide), fun h => absurd h (by decide), fun h => absurd h (by decide), fun h => absurd h (by decide)⟩
theorem lkX_2 : lkOk (1, 46, 5010, 2027) := ⟨fun _ => ⟨Or.inl (aW_t 691 (by decide +kernel) (by decide +kernel)), by decide⟩, fun h => absurd h (by decide), fun h => absurd h (by decide), fun h => absurd h (by decide), fun h => absurd h (by decide), fun h => absurd h (by decide)⟩
theorem lkX_3 : lkOk (1, 49, 5010, 2028) := ⟨fun _ => ⟨Or.inl (aW_t 693 (by decide +kernel) (by decide +kernel)), by decide⟩, fun h => absurd h (by decide), fun h => absurd h (by decide), fun h => absurd h (by decide), fun h => absurd h (by decide), fun h => absurd h (by decide)⟩
theorem lkX_4 : lkOk (1, 55, 5010, 2029) := ⟨fun _ => ⟨Or.inl (aW_t 687 (by decide +kernel) (by decide +kernel)), by decide⟩, fun h => absurd h (by decide), fun h => absurd h (by decide), fun h => absurd h (by decide), fun h => absurd h (by decide), fun h => absurd h (by decide)⟩
theorem lkX_5 : lkOk (1, 58, 5010, 2030) := ⟨fun _ => ⟨Or.inl (aW_t 689 (by decide +kernel) (by decide +kernel)), by decide⟩, fun h => absurd h (by decide), fun h => absurd h (by decide), fun h => absurd h (by decide), fun h => absurd h (by decide), fun h => absurd h (by decide)⟩
theorem lkX_6 : lkOk (1, 64, 5010, 2031) := ⟨fun _ => ⟨Or.inl (aW_t 685 (by decide +kernel) (by decide +kernel)), by decide⟩, fun h => absurd h (by decide), fun h => absurd h (by decide), fun h => absurd h (by decide), fun h => absurd h (by decide), fun h => absurd h (by decide)⟩
theorem lkX_7 : lkOk (1, 78, 5010, 2002) := ⟨fun _ => ⟨Or.inl (aW_t 662 (by decide +kernel) (by decide +kernel)), by decide⟩, fun h => absurd h (by decide), fun h => absurd h (by decide), fun h => absurd h (by decide), fun h => absurd h (by decide), fun h => absurd h (by decide)⟩
theorem lkX_8 : lkOk (1, 81, 5010, 2022) := ⟨fun _ => ⟨Or.inl (aW_t 663 (by decide +kernel) (by decide +kernel)), by decide⟩, fun h => absurd h (by decide), fun h => absurd h (by decide), fun h => absurd h (by decide), fun h => absurd h (by decide), fun h => absurd h (by decide)⟩
theorem lkX_9 : lkOk (1, 84, 5010, 2025) := ⟨fun _ => ⟨Or.inl (aW_t 665 (by decide +kernel) (by decide +kernel)), by decide⟩, fun h => absurd h (by decide), fun h => absurd h (by decide), fun h => absurd h (by decide), fun h => absurd h (by decide), fun h => absurd h (by decide)⟩
theorem lkX_10 : lkOk (1, 104, 5010, 2026) := ⟨fun _ => ⟨Or.inl (aW_t 683 (by decide +kernel) (by decide +kernel)), by decide⟩, fun h => absurd h (by decide), fun h => absurd h (by decide), fun h => absurd h (by decide), fun h => absurd h (by decide), fun h => absurd h (by decide)⟩
theorem lkX_11 : lkOk (1, 107, 5010, 2003) := ⟨fun _ => ⟨Or.inl (aW_t 643 (by decide +kernel) (by decide +kernel)), by decide⟩, fun h => absurd h (by decide), fun h => absurd h (by decide), fun h => absurd h (by decide), fun h => absurd h (by decide), fun h => absurd h (by decide)⟩
theorem lkX_12 : lkOk (1, 117, 5015, 2240) := ⟨fun h => absurd h (by decide), fun h => absurd h (by decide), fun h => absurd h (by decide), fun h => absurd h (by decide), fun h => absurd h (by decide), fun h => absurd h (by decide)⟩
theorem lkX_13 : lkOk (1, 123, 5015, 2241) := ⟨fun h => absurd h (by decide), fun h => absurd h (by decide), fun h => absurd h (by decide), fun h => absurd h (by decide), fun h => absurd h (by decide), fun h => absurd h (by decide)⟩
theorem lkX_14 : lkOk (1, 125, 5015, 2242) := ⟨fun h => absurd h (by decide), fun h => absurd h (by decide), fun h => absurd h (by decide), fun h => absurd h (by decide), fun h => absurd h (by decide), fun h => absurd h (by decide)⟩
theorem lkX_15 : lkOk (1, 127, 5015, 2243) := ⟨fun h => absurd h (by decide), fun h => absurd h (by decide), fun h => absurd h (by decide), fun h => absurd h (by decide), fun h => absurd h (by decide), fun h => absurd h (by decide)⟩
theorem lkX_16 : lkOk (1, 129, 5015, 2244) := ⟨fun h => absurd h (by decide), fun h => absurd h (by decide), fun h => absurd h (by decide), fun h => absurd h (by decide), fun h => absurd h (by decide), fun h => absurd h (by decide)⟩
theorem lkX_17 : lkOk (1, 131, 5015, 2245) := ⟨fun h => absurd h (by decide), fun h => absurd h (by decide), fun h => absurd h (by decide), fun h => absurd h (by decide), fun h => absurd h (by decide), fun h => absurd h (by decide)⟩
theorem lkX_18 : lkOk (1, 133, 5015, 2246) := ⟨fun h => absurd h (by decide), fun h => absurd h (by decide), fun h => absurd h (by decide), fun h => absurd h (by decide), fun h => absurd h (by decide), fun h => absurd h (by decide)⟩
theorem lkX_19 : lkOk (1, 135, 5015, 2247) := ⟨fun h => absurd h (by decide), fun h => absurd h (by decide), fun h => absurd h (by decide), fun h => absurd h (by decide), fun h => absurd h (by decide), fun h => absurd h (by decide)⟩
theorem lkX_20 : lkOk (3, 99, 5002, 0) := ⟨fun h => absurd h (by decide), fun h => absurd h (by decide), fun _ => aW_t 1001 (by decide +kernel) (by decide +kernel), fun h => absurd h (by decide), fun h => absurd h (by decide), fun h => absurd h (by decide)⟩
theorem lkX_21 : lkOk (4, 53, 5002, 0) := ⟨fun h => absurd h (by decide), fun h => absurd h (by decide), fun _ => aW_t 740 (by decide +kernel) (by decide +kernel), fun h => absurd h (by decide), fun h => absurd h (by decide), fun h => absurd h (by decide)⟩
theorem lkX_22 : lkOk (5, 38, 5010, 2000) := ⟨fun _ => ⟨Or.inl (aW_t 504 (by decide +kernel) (by decide +kernel)), by decide⟩, fun h => absurd h (by decide), fun h => absurd h (by decide), fun h => absurd h (by decide), fun h => absurd h (by decide), fun h => absurd h (by decide)⟩
theorem lkX_23 : lkOk (5, 48, 5010, 2101) := ⟨fun _ => ⟨Or.inl (aW_t 509 (by decide +kernel) (by decide +kernel)), by decide⟩, fun h => absurd h (by decide), fun h => absurd h (by decide), fun h => absurd h (by decide), fun h => absurd h (by decide), fun h => absurd h (by decide)⟩
theorem lkX_24 : lkOk (5, 56, 5005, 0) := ⟨fun h => absurd h (by decide), fun h => absurd h (by decide), fun h => absurd h (by decide), fun h => absurd h (by decide), fun h => absurd h (by decide), fun _ => aW_t 511 (by decide +kernel) (by decide +kernel)⟩
theorem lkX_25 : lkOk (5, 91, 5010, 2032) := ⟨fun _ => ⟨Or.inl (aW_t 699 (by decide +kernel) (by decide +kernel)), by decide⟩, fun h => absurd h (by decide), fun h => absurd h (by decide), fun h => absurd h (by decide), fun h => absurd h (by decide), fun h => absurd h (by decide)⟩
theorem lkX_26 : lkOk (5, 130, 5010, 2006) := ⟨fun _ => ⟨Or.inl (aW_t 547 (by decide +kernel) (by decide +kernel)), by decide⟩, fun h => absurd h (by decide), fun h => absurd h (by decide), fun h => absurd h (by decide), fun h => absurd h (by decide), fun h => absurd h (by decide)⟩
theorem lkX_27 : lkOk (5, 140, 5010, 2007) := ⟨fun _ => ⟨Or.inl (aW_t 558 (by decide +kernel) (by decide +kernel)), by decide⟩, fun h => absurd h (by decide), fun h => absurd h (by decide), fun h => absurd h (by decide), fun h => absurd h (by decide), fun h => absurd h (by decide)⟩
theorem lkX_28 : lkOk (5, 146, 5010, 2008) := ⟨fun _ => ⟨Or.inl (aW_t 560 (by decide +kernel) (by decide +kernel)), by decide⟩, fun h => absurd h (by decide), fun h => absurd h (by decide), fun h => absurd h (by decide), fun h => absurd h (by decide), fun h => absurd h (by decide)⟩
theorem lkX_29 : lkOk (5, 152, 5010, 2009) := ⟨fun _ => ⟨Or.inl (aW_t 562 (by decide +kernel) (by decide +kernel)), by decide⟩, fun h => absurd h (by decide), fun h => absurd h (by decide), fun h => absurd h (by decide), fun h => absurd h (by decide), fun h => absurd h (by decide)⟩
theorem lkX_30 : lkOk (5, 165, 5010, 2003) := ⟨fun _ => ⟨Or.inl (aW_t 530 (by decide +kernel) (by decide +kernel)), by decide⟩, fun h => absurd h (by decide), fun h => absurd h (by decide), fun h => absurd h (by decide), fun h => absurd h (by decide), fun h => absurd h (by decide)⟩
theorem lkX_31 : lkOk (5, 228, 5010, 2015) := ⟨fun _ => ⟨Or.inl (aW_t 726 (by decide +kernel) (by decide +kernel)), by decide⟩, fun h => absurd h (by decide), fun h => absurd h (by decide), fun h => absurd h (by decide), fun h => absurd h (by decide), fun h => absurd h (by decide)⟩
theorem lkX_32 : lkOk (5, 231, 5010, 2016) := ⟨fun _ => ⟨Or.inl (aW_t 728 (by decide +kernel) (by decide +kernel)), by decide⟩, fun h => absurd h (by decide), fun h => absurd h (by decide), fun h => absurd h (by decide), fun h => absurd h (by decide), fun h => absurd h (by decide)⟩
theorem lkX_33 : lkOk (5, 234, 5010, 2017) := ⟨fun _ => ⟨Or.inl (aW_t 730 (by decide +kernel) (by decide +kernel)), by decide⟩, fun h => absurd h (by decide), fun h => absurd h (by decide), fun h => absurd h (by decide), fun h => absurd h (by decide), fun h => absurd h (by decide)⟩
theorem lkX_34 : lkOk (5, 239, 5010, 2002) := ⟨fun _ => ⟨Or.inl (aW_t 557 (by decide +kernel) (by decide +kernel)), by decide⟩, fun h => absurd h (by decide), fun h => absurd h (by decide), fun h => absurd h (by decide), fun h => absurd h (by decide), fun h => absurd h (by decide)⟩
theorem lkX_35 : lkOk (8, 24, 5002, 0) := ⟨fun h => absurd h (by decide), fun h => absurd h (by decide), fun _ => aW_t 351 (by decide +kernel) (by decide +kernel), fun h => absurd h (by decide), fun h => absurd h (by decide), fun h => absurd h (by decide)⟩
theorem lkX_36 : lkOk (9, 15, 5010, 2000) := ⟨fun _ => ⟨Or.inl (aW_t 41 (by decide +kernel) (by decide +kernel)), by decide⟩, fun h => absurd h (by decide), fun h => absurd h (by decide), fun h => absurd h (by decide), fun h => absurd h (by decide), fun h => absurd h (by decide)⟩
theorem lkX_37 : lkOk (9, 69, 5010, 2001) := ⟨fun _ => ⟨Or.inl (aW_t 444 (by decide +kernel) (by decide +kernel)), by decide⟩, fun h => absurd h (by decide), fun h => absurd h (by decide), fun h => absurd h (by decide), fun h => absurd h (by decide), fun h => absurd h (by decide)⟩
theorem lkX_38 : lkOk (9, 72, 5010, 2002) := ⟨fun _ => ⟨Or.inl (aW_t 446 (by decide +kernel) (by decide +kernel)), by decide⟩, fun h => absurd h (by decide), fun h => absurd h (by decide), fun h => absurd h (by decide), fun h => absurd h (by decide), fun h => absurd h (by decide)⟩
theorem lkX_39 : lkOk (9, 75, 5010, 2100) := ⟨fun _ => ⟨Or.inr (aN_t 448 (by decide +kernel) (by decide +kernel)), by decide⟩, fun h => absurd h (by decide), fun h => absurd h (by decide), fun h => absurd h (by decide), fun h => absurd h (by decide), fun h => absurd h (by decide)⟩
theorem lkX_40 : lkOk (9, 79, 5011, 0) := ⟨fun h => absurd h (by decide), fun _ => Or.inr (aN_t 1916 (by decide +kernel) (by decide +kernel)), fun h => absurd h (by decide), fun h => absurd h (by decide), fun h => absurd h (by decide), fun h => absurd h (by decide)⟩
theorem lkX_41 : lkOk (9, 87, 5010, 2003) := ⟨fun _ => ⟨Or.inl (aW_t 502 (by decide +kernel) (by decide +kernel)), by decide⟩, fun h => absurd h (by decide), fun h => absurd h (by decide), fun h => absurd h (by decide), fun h => absurd h (by decide), fun h => absurd h (by decide)⟩
theorem lkX_42 : lkOk (9, 90, 5003, 0) := ⟨fun h => absurd h (by decide), fun h => absurd h (by decide), fun h => absurd h (by decide), fun _ => aW_t 454 (by decide +kernel) (by decide +kernel), fun h => absurd h (by decide), fun h => absurd h (by decide)⟩
theorem lkX_43 : lkOk (9, 95, 5004, 0) := ⟨fun h => absurd h (by decide), fun h => absurd h (by decide), fun h => absurd h (by decide), fun h => absurd h (by decide), fun _ => aW_t 464 (by decide +kernel) (by decide +kernel), fun h => absurd h (by decide)⟩
set_option maxRecDepth 100000 in
theorem lkX_ok : ∀ q ∈ lkX, lkOk q := List.forall_mem_cons.mpr ⟨lkX_0, List.forall_mem_cons.mpr ⟨lkX_1, List.forall_mem_cons.mpr ⟨lkX_2, List.forall_mem_cons.mpr ⟨lkX_3, List.forall_mem_cons.mpr ⟨lkX_4, List.forall_mem_cons.mpr ⟨lkX_5, List.forall_mem_cons.mpr ⟨lkX_6, List.forall_mem_cons.mpr ⟨lkX_7, List.forall_mem_cons.mpr ⟨lkX_8, List.forall_mem_cons.mpr ⟨lkX_9, List.forall_mem_cons.mpr ⟨lkX_10, List.forall_mem_cons.mpr ⟨lkX_11, List.forall_mem_cons.mpr ⟨lkX_12, List.forall_mem_cons.mpr ⟨lkX_13, List.forall_mem_cons.mpr ⟨lkX_14, List.forall_mem_cons.mpr ⟨lkX_15, List.forall_mem_cons.mpr ⟨lkX_16, List.forall_mem_cons.mpr ⟨lkX_17, List.forall_mem_cons.mpr ⟨lkX_18, List.forall_mem_cons.mpr ⟨lkX_19, List.forall_mem_cons.mpr ⟨lkX_20, List.forall_mem_cons.mpr ⟨lkX_21, List.forall_mem_cons.mpr ⟨lkX_22, List.forall_mem_cons.mpr ⟨lkX_23, List.forall_mem_cons.mpr ⟨lkX_24, List.forall_mem_cons.mpr ⟨lkX_25, List.forall_mem_cons.mpr ⟨lkX_26, List.forall_mem_cons.mpr ⟨lkX_27, List.forall_mem_cons.mpr ⟨lkX_28, List.forall_mem_cons.mpr ⟨lkX_29, List.forall_mem_cons.mpr ⟨lkX_30, List.forall_mem_cons.mpr ⟨lkX_31, List.forall_mem_cons.mpr ⟨lkX_32, List.forall_mem_cons.mpr ⟨lkX_33, List.forall_mem_cons.mpr ⟨lkX_34, List.forall_mem_cons.mpr ⟨lkX_35, List.forall_mem_cons.mpr ⟨lkX_36, List.forall_mem_cons.mpr ⟨lkX_37, List.forall_mem_cons.mpr ⟨lkX_38, List.forall_mem_cons.mpr ⟨lkX_39, List.forall_mem_cons.mpr ⟨lkX_40, List.forall_mem_cons.mpr ⟨lkX_41, List.forall_mem_cons.mpr ⟨lkX_42, List.forall_mem_cons.mpr ⟨lkX_43, fun _ h => absurd h List.not_mem_nil⟩⟩⟩⟩⟩⟩⟩⟩⟩⟩⟩⟩⟩⟩⟩⟩⟩⟩⟩⟩⟩⟩⟩⟩⟩⟩⟩⟩⟩⟩⟩⟩⟩⟩⟩⟩⟩⟩⟩⟩⟩⟩⟩⟩
def ldcL : List (Nat × Nat × Nat × String) := [(1, 117, 2240, "heavy"), (1, 123, 2241, "fond"), (1, 125, 2242, "small"), (1, 127, 2243, "more"), (1, 129, 2244, "ahead"), (1, 131, 2245, "sum"), (1, 133, 2246, "most"), (1, 135, 2247, "spiked")]
theorem ldc_in : ∀ q ∈ lkX, q.2.2.1 = 5015 → ∃ tx, (q.1, q.2.1, q.2.2.2, tx) ∈ ldcL := by
  have key : ∀ q ∈ lkX, q.2.2.1 = 5015 → (ldcL.map fun r => (r.1, r.2.1, r.2.2.1)).contains (q.1, q.2.1, q.2.2.2) = true := by decide +kernel
  intro q hq h5
  have := key q hq h5
  rw [List.contains_iff_mem] at this
  obtain ⟨r, hr, e⟩ := List.mem_map.mp this
  simp only [Prod.mk.injEq] at e
  obtain ⟨e1, e2, e3⟩ := e
  refine ⟨r.2.2.2, ?_⟩
  rw [← e1, ← e2, ← e3]
  exact hr
theorem aCp_s : Cond.static arraycopyName ∈ aWS := aW_t 352 (by decide +kernel) (by decide +kernel)
theorem aCp_n : Cond.native arraycopyName ∈ aWS := aW_t 353 (by decide +kernel) (by decide +kernel)
theorem aCp_i : Cond.initialized "java/lang/System" ∈ aWS := aW_t 14 (by decide +kernel) (by decide +kernel)
/-- what is known of the constants: the Sorts, their row, the switch map, the texts -/
def aZh (ad : Nat → Nat) (A : Nat → Prop) (U : State) (H : Heap) : Prop :=
  (∀ i, i < 33 → va_Z RX9 (aSn i) "LFoldedRealm$Sort;" (.ref (ad (2000 + i))) A U H ∧ va_O RX9 (ad (2000 + i)) A U H ∧ va_OF "java/lang/Enum" "ordinal" "I" (.int (Int32.ofNat i)) (ad (2000 + i)) A U H ∧ va_OF RX9 "text" "Ljava/lang/String;" (.ref (ad (2200 + i))) (ad (2000 + i)) A U H) ∧
  (va_Z RX12 "SORTS" "[LFoldedRealm$Sort;" (.ref (ad 2100)) A U H ∧ va_T (.object RX9) (ad 2100) 33 (fun j => .ref (ad (2000 + j))) A U H) ∧
  (va_Z RX0 "$SwitchMap$FoldedRealm$Sort" "[I" (.ref (ad 2101)) A U H ∧ va_T .int (ad 2101) 33 (fun j => .int (asm j)) A U H) ∧
  (∀ i, 2200 ≤ i → i ≤ 2299 → va_O "java/lang/String" (ad i) A U H ∧ va_OF "java/lang/String" "coder" "B" (.int 0) (ad i) A U H ∧ va_OF "java/lang/String" "value" "[B" (.ref (ad (i + 200))) (ad i) A U H ∧ va_T .byte (ad (i + 200)) (asl i) (fun j => .int (asc i j)) A U H) ∧
  va_Z "java/lang/String" "COMPACT_STRINGS" "Z" (.int 1) A U H ∧ va_Zq "jdk/internal/util/Preconditions" "SIOOBE_FORMATTER" "Ljava/util/function/BiFunction;" A U H
def aZv (ad : Nat → Nat) (U : State) : Prop := ∀ q ∈ ldcL, vk_R (aCN q.1) q.2.1 q.2.2.2 (ad q.2.2.1) U
def aZX (ad : Nat → Nat) (A : Nat → Prop) (U : State) : Prop := aZh ad A U U.heap ∧ aZv ad U
theorem aZh.moved {ad : Nat → Nat} {A : Nat → Prop} {u U : State} {H : Heap} (hvm : u.vm.Alike U.vm) (h : aZh ad A u H) : aZh ad A U H :=
  ⟨fun i hi => ⟨(h.1 i hi).1.moved hvm, (h.1 i hi).2.1.moved hvm, (h.1 i hi).2.2.1.moved hvm, (h.1 i hi).2.2.2.moved hvm⟩, ⟨h.2.1.1.moved hvm, h.2.1.2.moved hvm⟩, ⟨h.2.2.1.1.moved hvm, h.2.2.1.2.moved hvm⟩,
    fun i h1 h2 => ⟨(h.2.2.2.1 i h1 h2).1.moved hvm, (h.2.2.2.1 i h1 h2).2.1.moved hvm, (h.2.2.2.1 i h1 h2).2.2.1.moved hvm, (h.2.2.2.1 i h1 h2).2.2.2.moved hvm⟩, h.2.2.2.2.1.moved hvm, h.2.2.2.2.2.imp (fun z => z.moved hvm) (fun ⟨t, z⟩ => ⟨t, z.moved hvm⟩)⟩
theorem aZh.kept {ad : Nat → Nat} {A : Nat → Prop} {U : State} {H H1 : Heap} (h : aZh ad A U H) (hq : ∀ a : Nat, a < H.size → ¬ A a → H1[a]? = H[a]?) : aZh ad A U H1 :=
  ⟨fun i hi => ⟨(h.1 i hi).1.kept hq, (h.1 i hi).2.1.kept hq, (h.1 i hi).2.2.1.kept hq, (h.1 i hi).2.2.2.kept hq⟩, ⟨h.2.1.1.kept hq, h.2.1.2.kept hq⟩, ⟨h.2.2.1.1.kept hq, h.2.2.1.2.kept hq⟩,
    fun i h1 h2 => ⟨(h.2.2.2.1 i h1 h2).1.kept hq, (h.2.2.2.1 i h1 h2).2.1.kept hq, (h.2.2.2.1 i h1 h2).2.2.1.kept hq, (h.2.2.2.1 i h1 h2).2.2.2.kept hq⟩, h.2.2.2.2.1.kept hq, h.2.2.2.2.2.imp (fun z => z.kept hq) (fun ⟨t, z⟩ => ⟨t, z.kept hq⟩)⟩
theorem aZX_ok {ad : Nat → Nat} {A : Nat → Prop} : aZok A (aZX ad A) := by
  constructor
  · intro U g mk a h
    exact ⟨aZh.moved (u := U) (U := U.calling g mk a) (Vm.Alike.refl U.vm) h.1, fun q hq => vk_R.same (u := U) (U := U.calling g mk a) rfl (h.2 q hq)⟩
  · intro s U H locs h hW hS hU
    refine ⟨?_, fun q hq => vk_R.warm hW (h.2 q hq)⟩
    rw [hU]
    exact (aZh.moved hW.alike h.1).kept hS.2.1
theorem ace_scp {ad : Nat → Nat} {cy : Nat → ClassId} {S : aS} {x y : Nat} {sp dp n : Int32} (j : Nat) (h : j ≠ y) : ace ad cy (scp S x sp y dp n) j = ace ad cy S j := by
  have e : arw ad (scp S x sp y dp n) j = arw ad S j := by
    unfold arw
    simp only [scp, va_up, if_neg h]
  unfold ace
  rw [e]
  rfl
theorem gE_inv {x : Nat} {X : Prop} (h : aG (gE x) X) : (∃ i, i < 33 ∧ x = 2000 + i) ∧ X := by
  unfold gE at h
  cases hb : (Nat.ble 2000 x && Nat.ble x 2032) with
  | true =>
    rw [hb] at h
    obtain ⟨b1, b2⟩ := (Bool.and_eq_true _ _).mp hb
    have b1 := Nat.le_of_ble_eq_true b1
    have b2 := Nat.le_of_ble_eq_true b2
    exact ⟨⟨x - 2000, by omega, by omega⟩, h⟩
  | false =>
    rw [hb] at h
    obtain ⟨b1, b2⟩ := h.1
    exact ⟨⟨x - 2000, by omega, by omega⟩, h.2⟩
section
variable {p : Program} {l : Launch} {e : Env} {s : State} {m : MethodId} {args : Array Value} {below : List Frame} {meth : Method} {c : Code} {cc : ByteArray} {nL on : Nat} {ad : Nat → Nat} {cy : Nat → ClassId} {D : va_G} {ids : List Nat} {A : Nat → Prop} {Qs : State → Prop} {d : Nat} {pc : Nat} {B : Array Slot} {H : Heap} {locs : List Loc} {rest : List Value} {S : aS}
theorem r_static (X : aCx p s m args c cc nL on ad cy D ids A rkX (aZX ad A)) {i v : Nat} (hl : (on, i, 5010, v) ∈ lkX) (hd : decode cc pc = .ok (.getstatic i, 3)) (hS : va_S A s.heap H locs) {R : Room}
    (kk : W p l e R s m args below meth c H locs 0 0 Qs (F0 m (pc + 3) B (.ref (ad v) :: rest))) : W p l e R s m args below meth c H locs 0 0 Qs (F0 m pc B rest) := by
  obtain ⟨hexec, hb, hml, hown, hts, hnw, hK, hn, hA, hi, hreg, ⟨hz, hzv⟩, had⟩ := X
  obtain ⟨h1, h2⟩ := (lkX_ok _ hl).1 rfl
  have hZ : va_Z (aStF v).1 (aStF v).2.1 (aStF v).2.2 (.ref (ad v)) A s s.heap := by
    rcases h2 with h2 | h2 | ⟨h2, h3⟩
    · have h2 : v = 2100 := h2
      subst h2
      exact hz.2.1.1
    · have h2 : v = 2101 := h2
      subst h2
      exact hz.2.2.1.1
    · have h2 : 2000 ≤ v := h2
      have h3 : v ≤ 2032 := h3
      have := (hz.1 (v - 2000) (by omega)).1
      rw [show 2000 + (v - 2000) = v from by omega] at this
      unfold aStF
      rw [if_neg (by omega), if_neg (by omega)]
      dsimp only
      exact this
  rcases h1 with h1 | h1
  · exact va_gets hexec hb hZ hS hown (hts _ h1) (fun _ h => h) hd kk
  · exact va_getsN hexec hb hZ hS hown (va_Nw.use rfl (hnw _ h1)) (fun _ h => h) hd kk
theorem r_text (X : aCx p s m args c cc nL on ad cy D ids A rkX (aZX ad A)) {i k : Nat} (hk : k < 33) (hl : (on, i, 5011, 0) ∈ lkX) (hd : decode cc pc = .ok (.getfield i, 3)) (hS : va_S A s.heap H locs) {R : Room}
    (kk : W p l e R s m args below meth c H locs 0 0 Qs (F0 m (pc + 3) B (.ref (ad (2200 + k)) :: rest))) : W p l e R s m args below meth c H locs 0 0 Qs (F0 m pc B (.ref (ad (2000 + k)) :: rest)) := by
  obtain ⟨hexec, hb, hml, hown, hts, hnw, hK, hn, hA, hi, hreg, ⟨hz, hzv⟩, had⟩ := X
  have hF := (hz.1 k hk).2.2.2
  rcases (lkX_ok _ hl).2.1 rfl with h1 | h1
  · exact vk_getf hexec hb hF hS hown (hts _ h1) (fun _ h => h) hd kk
  · obtain ⟨cf, kf, fi, f, cell, g1, g2, g3, g4, g5, g6⟩ := hF.kept hS.2.1
    exact va_Wgetf hexec hb hown (va_Nw.use rfl (hnw _ h1)) g1 g2 g3 g4 g5 rfl rfl hd kk
theorem r_copy (X : aCx p s m args c cc nL on ad cy D ids A rkX (aZX ad A)) {i x y : Nat} {sp dp n : Int32} (hl : (on, i, 5002, 0) ∈ lkX) (hx : akd x = 20) (hg : acpG x sp y dp n) (hs : acs rest ≤ 100) (hd : decode cc pc = .ok (.invokestatic i, 3)) {ls : aLs} (hl9 : aHas ad B nL ls) (hP : va_P D vwCl (aws ad cy ids S) H) (hS : va_S A s.heap H locs)
    (kk : ∀ (H1 : Heap) (locs1 : List Loc), va_P D vwCl (aws ad cy ids (scp S x sp y dp n)) H1 → va_S A s.heap H1 locs1 → W p l e (aRm (d + 1)) s m args below meth c H1 locs1 0 0 Qs (F0 m (pc + 3) B (rest.map (atv ad)))) : W p l e (aRm (d + 1)) s m args below meth c H locs 0 0 Qs (F0 m pc B (.int n :: .int dp :: .ref (ad y) :: .int sp :: .ref (ad x) :: rest.map (atv ad))) := by
  obtain ⟨hexec, hb, hml, hown, hts, hnw, hK, hn, hA, hi, hreg, hZ⟩ := X
  obtain ⟨hy, g1, g2, g3, g4, g5⟩ := hg
  obtain ⟨q0, h1, h2⟩ := aws_at (ad := ad) (cy := cy) (S := S) (hreg x 20 hx rfl)
  obtain ⟨q1, h3, h4⟩ := aws_at (ad := ad) (cy := cy) (S := S) (hreg y 20 hy rfl)
  rw [ace_arr hx rfl, arw_I hx (Or.inl rfl)] at h2
  rw [ace_arr hy rfl, arw_I hy (Or.inl rfl)] at h4
  have hset := aws_set (ad := ad) (cy := cy) (S := S) (S' := scp S x sp y dp n) hn h3 (fun j hj => ace_scp j hj)
  rw [ace_arr hy rfl, arw_I hy (Or.inl rfl)] at hset
  have hu : (scp S x sp y dp n).2.2.2.1 y = va_cpy (S.2.2.2.1 x) (S.2.2.2.1 y) sp.toNatClampNeg dp.toNatClampNeg n.toNatClampNeg := by simp only [scp, va_up, if_pos]
  rw [hu] at hset
  refine va_copyi hexec hb (hml.trans hl9.2.1.symm) hown (hts _ ((lkX_ok _ hl).2.2.1 rfl)) (hts _ aCp_n) (hts _ aCp_s) (hts _ aCp_i) hK hP (aws_D hn hA hi) hS q0 q1 0 0 h2 h4 rfl rfl rfl g1 g2 g3 g4 g5 (fun _ _ => rfl) ?_ ?_ hd (fun H1 locs1 z1 _ z3 => kk H1 locs1 (hset ▸ z1) z3)
  · show 1 ≤ d + 1 + 5
    omega
  · rw [acs_map]
    show acs rest + (nativeFrameWords "java/lang/System" "arraycopy" 5 + 11) ≤ 120 * (d + 1 + 5)
    have : nativeFrameWords "java/lang/System" "arraycopy" 5 ≤ 9 := by decide +kernel
    omega
end
end
section
/-! calls on constants: Enum.ordinal -/
theorem aO_c : Cond.code yJx29ce0_ordinal_8abf5 cJx29ce0_ordinal_8abf5 1 (some .int) ∈ aWS := aW_t 516 (by decide +kernel) (by decide +kernel)
theorem aO_f : Cond.fieldLink RJx29ce0 7 "java/lang/Enum" "ordinal" "I" ∈ aWS := aW_t 1919 (by decide +kernel) (by decide +kernel)
theorem aO_0 : decode cJx29ce0_ordinal_8abf5 0 = .ok (.aload_n 0, 1) := by decide +kernel
theorem aO_1 : decode cJx29ce0_ordinal_8abf5 1 = .ok (.getfield 7, 3) := by decide +kernel
theorem aO_4 : decode cJx29ce0_ordinal_8abf5 4 = .ok (.ireturn, 1) := by decide +kernel
/-- what a call on a constant brings: an int, no cell written -/
def aQn (v : Int32) : Array Value → State → Outcome → State → Prop := fun _ st o t => o = .returned (some (.int v)) ∧ t.heap = st.heap
def aPn (ad : Nat → Nat) (A : Nat → Prop) (av : List Value) : Array Value → State → Prop := va_Pc av fun U => aZX ad A U
theorem aPn_blind {ad : Nat → Nat} {A : Nat → Prop} {av : List Value} : FrameBlind (aPn ad A av) := fun a U g mk h => ⟨h.1, aZX_ok.1 U g mk a h.2⟩
set_option maxRecDepth 100000 in
theorem c_ordinal (l : Launch) (ad : Nat → Nat) (A : Nat → Prop) {k : Nat} (hk : k < 33) : Met l yJx29ce0_ordinal_8abf5 (Cond.code yJx29ce0_ordinal_8abf5 cJx29ce0_ordinal_8abf5 1 (some .int) :: aWS) (aRn 0) (aPn ad A [.ref (ad (2000 + k))]) (aQn (Int32.ofNat k)) 0 0 (fun _ => False) := by
  refine metF (cc := cJx29ce0_ordinal_8abf5) (maxL := 1) (ret := some .int) (by decide +kernel) rfl ?_
  intro p e s m args below meth c s₁ B hml hv
  obtain ⟨rfl, hz⟩ := hv
  have hx := B.exec
  have hb := B.bytes
  have hr := B.returns
  have hts := atoms_spec B.pre
  have hown : s.vm.findClass RJx29ce0 = some m.cls := findClass_of_methodNamed B.named
  have hlocks := B.notSynchronized
  have hl := lv_entry ([.ref (ad (2000 + k))]) (n := 1) (Nat.le_of_ble_eq_true rfl)
  rw [lg_entry_eq]
  generalize (lg_sl ([.ref (ad (2000 + k))]) ++ List.replicate (1 - (lg_sl ([.ref (ad (2000 + k))])).length) Slot.unset).toArray = ls at hl ⊢
  have hl : lv_has ls 1 [(0, .ref (ad (2000 + k)))] := hl
  refine lv_aload_n hx hb aO_0 rfl (lv_at hl 0 rfl) ?_
  refine vk_getf hx hb (hz.1.1 k hk).2.2.1 (va_S.rf (A := A)) hown (hts _ (List.mem_cons_of_mem _ aO_f)) (fun _ h => h) aO_1 ?_
  exact W.iret hx hb hr (fun t ht hW => ⟨rfl, ht⟩) (fun _ h => by cases h) aO_4 hlocks
end
section
/-! calls on constants: the texts -/
theorem ddJ0_coder_7d493_0 : decode cJ0_coder_7d493 0 = .ok (.getstatic 38, 3) := by decide +kernel
theorem ddJ0_coder_7d493_3 : decode cJ0_coder_7d493 3 = .ok (.ifCond .eq 10, 3) := by decide +kernel
theorem ddJ0_coder_7d493_6 : decode cJ0_coder_7d493 6 = .ok (.aload_n 0, 1) := by decide +kernel
theorem ddJ0_coder_7d493_7 : decode cJ0_coder_7d493 7 = .ok (.getfield 15, 3) := by decide +kernel
theorem ddJ0_coder_7d493_10 : decode cJ0_coder_7d493 10 = .ok (.goto 4, 3) := by decide +kernel
theorem ddJ0_coder_7d493_13 : decode cJ0_coder_7d493 13 = .ok (.iconst 1, 1) := by decide +kernel
theorem ddJ0_coder_7d493_14 : decode cJ0_coder_7d493 14 = .ok (.ireturn, 1) := by decide +kernel
theorem ddJ0_isLatin1_aae02_0 : decode cJ0_isLatin1_aae02 0 = .ok (.getstatic 38, 3) := by decide +kernel
theorem ddJ0_isLatin1_aae02_3 : decode cJ0_isLatin1_aae02 3 = .ok (.ifCond .eq 14, 3) := by decide +kernel
theorem ddJ0_isLatin1_aae02_6 : decode cJ0_isLatin1_aae02 6 = .ok (.aload_n 0, 1) := by decide +kernel
theorem ddJ0_isLatin1_aae02_7 : decode cJ0_isLatin1_aae02 7 = .ok (.getfield 15, 3) := by decide +kernel
theorem ddJ0_isLatin1_aae02_10 : decode cJ0_isLatin1_aae02 10 = .ok (.ifCond .ne 7, 3) := by decide +kernel
theorem ddJ0_isLatin1_aae02_13 : decode cJ0_isLatin1_aae02 13 = .ok (.iconst 1, 1) := by decide +kernel
theorem ddJ0_isLatin1_aae02_14 : decode cJ0_isLatin1_aae02 14 = .ok (.goto 4, 3) := by decide +kernel
theorem ddJ0_isLatin1_aae02_17 : decode cJ0_isLatin1_aae02 17 = .ok (.iconst 0, 1) := by decide +kernel
theorem ddJ0_isLatin1_aae02_18 : decode cJ0_isLatin1_aae02 18 = .ok (.ireturn, 1) := by decide +kernel
theorem ddJ0_length_8abf5_0 : decode cJ0_length_8abf5 0 = .ok (.aload_n 0, 1) := by decide +kernel
theorem ddJ0_length_8abf5_1 : decode cJ0_length_8abf5 1 = .ok (.getfield 9, 3) := by decide +kernel
theorem ddJ0_length_8abf5_4 : decode cJ0_length_8abf5 4 = .ok (.arraylength, 1) := by decide +kernel
theorem ddJ0_length_8abf5_5 : decode cJ0_length_8abf5 5 = .ok (.aload_n 0, 1) := by decide +kernel
theorem ddJ0_length_8abf5_6 : decode cJ0_length_8abf5 6 = .ok (.invokevirtual 335, 3) := by decide +kernel
theorem ddJ0_length_8abf5_9 : decode cJ0_length_8abf5 9 = .ok (.ishr, 1) := by decide +kernel
theorem ddJ0_length_8abf5_10 : decode cJ0_length_8abf5 10 = .ok (.ireturn, 1) := by decide +kernel
theorem ddJ3_checkIndex_8e157_0 : decode cJ3_checkIndex_8e157 0 = .ok (.iload_n 0, 1) := by decide +kernel
theorem ddJ3_checkIndex_8e157_1 : decode cJ3_checkIndex_8e157 1 = .ok (.ifCond .lt 8, 3) := by decide +kernel
theorem ddJ3_checkIndex_8e157_4 : decode cJ3_checkIndex_8e157 4 = .ok (.iload_n 0, 1) := by decide +kernel
theorem ddJ3_checkIndex_8e157_5 : decode cJ3_checkIndex_8e157 5 = .ok (.iload_n 1, 1) := by decide +kernel
theorem ddJ3_checkIndex_8e157_6 : decode cJ3_checkIndex_8e157 6 = .ok (.if_icmp .lt 10, 3) := by decide +kernel
theorem ddJ3_checkIndex_8e157_9 : decode cJ3_checkIndex_8e157 9 = .ok (.aload_n 2, 1) := by decide +kernel
theorem ddJ3_checkIndex_8e157_10 : decode cJ3_checkIndex_8e157 10 = .ok (.iload_n 0, 1) := by decide +kernel
theorem ddJ3_checkIndex_8e157_11 : decode cJ3_checkIndex_8e157 11 = .ok (.iload_n 1, 1) := by decide +kernel
theorem ddJ3_checkIndex_8e157_12 : decode cJ3_checkIndex_8e157 12 = .ok (.invokestatic 95, 3) := by decide +kernel
theorem ddJ3_checkIndex_8e157_15 : decode cJ3_checkIndex_8e157 15 = .ok (.athrow, 1) := by decide +kernel
theorem ddJ3_checkIndex_8e157_16 : decode cJ3_checkIndex_8e157 16 = .ok (.iload_n 0, 1) := by decide +kernel
theorem ddJ3_checkIndex_8e157_17 : decode cJ3_checkIndex_8e157 17 = .ok (.ireturn, 1) := by decide +kernel
theorem aT_cs : Cond.fieldLink RJ0 38 "java/lang/String" "COMPACT_STRINGS" "Z" ∈ aWS := aW_t 462 (by decide +kernel) (by decide +kernel)
theorem aT_co : Cond.fieldLink RJ0 15 "java/lang/String" "coder" "B" ∈ aWS := aW_t 1918 (by decide +kernel) (by decide +kernel)
theorem aT_va : Cond.fieldLink RJ0 9 "java/lang/String" "value" "[B" ∈ aWS := aW_t 1917 (by decide +kernel) (by decide +kernel)
set_option maxRecDepth 100000 in
theorem c_coder (l : Launch) (ad : Nat → Nat) (A : Nat → Prop) {x : Nat} (h1 : 2200 ≤ x) (h2 : x ≤ 2299) : Met l yJ0_coder_7d493 (Cond.code yJ0_coder_7d493 cJ0_coder_7d493 1 (some .byte) :: aWS) (aRn 0) (aPn ad A [.ref (ad x)]) (aQn 0) 0 0 (fun _ => False) := by
  refine metF (cc := cJ0_coder_7d493) (maxL := 1) (ret := some .byte) (by decide +kernel) rfl ?_
  intro p e s m args below meth c s₁ B hml hv
  obtain ⟨rfl, hz⟩ := hv
  have hx := B.exec
  have hb := B.bytes
  have hr := B.returns
  have hts := atoms_spec B.pre
  have hown : s.vm.findClass RJ0 = some m.cls := findClass_of_methodNamed B.named
  have hlocks := B.notSynchronized
  have hl := lv_entry ([.ref (ad x)]) (n := 1) (Nat.le_of_ble_eq_true rfl)
  rw [lg_entry_eq]
  generalize (lg_sl ([.ref (ad x)]) ++ List.replicate (1 - (lg_sl ([.ref (ad x)])).length) Slot.unset).toArray = ls at hl ⊢
  have hl : lv_has ls 1 [(0, .ref (ad x))] := hl
  have hS : va_S A s.heap s.heap [] := va_S.rf
  obtain ⟨hO, hC, hV, hT⟩ := hz.1.2.2.2.1 x h1 h2
  refine va_gets hx hb hz.1.2.2.2.2.1 hS hown (hts _ (List.mem_cons_of_mem _ aT_cs)) (fun _ h => h) ddJ0_coder_7d493_0 ?_
  refine lv_if_eq (tgt := 13) hx hb ddJ0_coder_7d493_3 rfl (fun z => absurd z (by decide)) (fun _ => ?_)
  refine lv_aload_n hx hb ddJ0_coder_7d493_6 rfl (lv_at hl 0 rfl) ?_
  refine vk_getf hx hb hC hS hown (hts _ (List.mem_cons_of_mem _ aT_co)) (fun _ h => h) ddJ0_coder_7d493_7 ?_
  refine lv_goto (tgt := 14) hx hb ddJ0_coder_7d493_10 rfl ?_
  exact W.zret (ty := .byte) hx hb hr rfl (fun t ht hW => ⟨rfl, ht⟩) (fun _ h => by cases h) ddJ0_coder_7d493_14 hlocks
set_option maxRecDepth 100000 in
theorem c_isLatin1 (l : Launch) (ad : Nat → Nat) (A : Nat → Prop) {x : Nat} (h1 : 2200 ≤ x) (h2 : x ≤ 2299) : Met l yJ0_isLatin1_aae02 (Cond.code yJ0_isLatin1_aae02 cJ0_isLatin1_aae02 1 (some .boolean) :: aWS) (aRn 0) (aPn ad A [.ref (ad x)]) (aQn 1) 0 0 (fun _ => False) := by
  refine metF (cc := cJ0_isLatin1_aae02) (maxL := 1) (ret := some .boolean) (by decide +kernel) rfl ?_
  intro p e s m args below meth c s₁ B hml hv
  obtain ⟨rfl, hz⟩ := hv
  have hx := B.exec
  have hb := B.bytes
  have hr := B.returns
  have hts := atoms_spec B.pre
  have hown : s.vm.findClass RJ0 = some m.cls := findClass_of_methodNamed B.named
  have hlocks := B.notSynchronized
  have hl := lv_entry ([.ref (ad x)]) (n := 1) (Nat.le_of_ble_eq_true rfl)
  rw [lg_entry_eq]
  generalize (lg_sl ([.ref (ad x)]) ++ List.replicate (1 - (lg_sl ([.ref (ad x)])).length) Slot.unset).toArray = ls at hl ⊢
  have hl : lv_has ls 1 [(0, .ref (ad x))] := hl
  have hS : va_S A s.heap s.heap [] := va_S.rf
  obtain ⟨hO, hC, hV, hT⟩ := hz.1.2.2.2.1 x h1 h2
  refine va_gets hx hb hz.1.2.2.2.2.1 hS hown (hts _ (List.mem_cons_of_mem _ aT_cs)) (fun _ h => h) ddJ0_isLatin1_aae02_0 ?_
  refine lv_if_eq (tgt := 17) hx hb ddJ0_isLatin1_aae02_3 rfl (fun z => absurd z (by decide)) (fun _ => ?_)
  refine lv_aload_n hx hb ddJ0_isLatin1_aae02_6 rfl (lv_at hl 0 rfl) ?_
  refine vk_getf hx hb hC hS hown (hts _ (List.mem_cons_of_mem _ aT_co)) (fun _ h => h) ddJ0_isLatin1_aae02_7 ?_
  refine lv_if_ne (tgt := 17) hx hb ddJ0_isLatin1_aae02_10 rfl (fun z => absurd rfl z) (fun _ => ?_)
  refine lv_iconst (v := 1) hx hb ddJ0_isLatin1_aae02_13 (by decide) ?_
  refine lv_goto (tgt := 18) hx hb ddJ0_isLatin1_aae02_14 rfl ?_
  exact W.zret (ty := .boolean) hx hb hr rfl (fun t ht hW => ⟨rfl, ht⟩) (fun _ h => by cases h) ddJ0_isLatin1_aae02_18 hlocks
theorem aT_cc : Cond.code yJ0_coder_7d493 cJ0_coder_7d493 1 (some .byte) ∈ aWS := aW_t 461 (by decide +kernel) (by decide +kernel)
theorem aT_cl : Cond.methodLink RJ0 335 yJ0_coder_7d493 ∈ aWS := aW_t 458 (by decide +kernel) (by decide +kernel)
theorem aT_ci : Cond.instanceMethod yJ0_coder_7d493 ∈ aWS := aW_t 459 (by decide +kernel) (by decide +kernel)
theorem aT_ce : Cond.selects RJ0 yJ0_coder_7d493 yJ0_coder_7d493 ∈ aWS := aW_t 460 (by decide +kernel) (by decide +kernel)
theorem aT_in : Cond.initialized RJ0 ∈ aWS := aW_t 16 (by decide +kernel) (by decide +kernel)
theorem r_runN {p : Program} {l : Launch} {e : Env} {R : Room} {s : State} {m : MethodId} {args : Array Value} {below : List Frame} {meth : Method} {c : Code} {H : Heap} {locs : List Loc} {Qs : State → Prop} {pc : Nat} {B : Array Slot} {v : Int32} {a' : Array Value} {st0 rest : List Value} (hr : va_Run p l e R s m args below meth c H locs 0 0 0 0 (F0 m pc B st0) rest (aQn v a') (fun _ => False))
    (kk : W p l e R s m args below meth c H locs 0 0 Qs (F0 m (pc + 3) B (.int v :: rest))) : W p l e R s m args below meth c H locs 0 0 Qs (F0 m pc B st0) := by
  intro T hT X
  obtain ⟨v1, st₀, t, T', L, h0, X', hL, e1, e2, ⟨hv, hh⟩, stp⟩ := hr T hT X
  cases hv
  have hLn : L = [] := by
    cases L with
    | nil => rfl
    | cons a t => exact (hL a List.mem_cons_self).elim
  subst hLn
  rw [List.append_nil] at X'
  obtain ⟨t2, a1, b1⟩ := kk T' (by rw [e1, hh, h0]) X'
  exact ⟨t2, stp t2 a1, b1⟩
theorem aGoodN {y : MethodName} {b : ByteArray} {n : Nat} {r : Option FieldType} (h : Cond.code y b n r ∈ aWS) {own : String} {i : Nat} (h1 : Cond.methodLink own i y ∈ aWS) (h2 : Cond.instanceMethod y ∈ aWS) (h3 : Cond.selects y.cls y y ∈ aWS) (h4 : Cond.initialized y.cls ∈ aWS) : GoodIn aWS (wsV own i y.cls y (Cond.code y b n r :: aWS)) := aGood h fun w hw => by
  rcases List.mem_cons.mp hw with z | hw
  · rw [z]; exact h1
  · rcases List.mem_cons.mp hw with z | hw
    · rw [z]; exact h2
    · rcases List.mem_cons.mp hw with z | hw
      · rw [z]; exact h3
      · rcases List.mem_cons.mp hw with z | hw
        · rw [z]; exact h4
        · cases hw
set_option maxRecDepth 100000 in
theorem c_length (l : Launch) (ad : Nat → Nat) (A : Nat → Prop) {x : Nat} (h1 : 2200 ≤ x) (h2 : x ≤ 2299) : Met l yJ0_length_8abf5 (Cond.code yJ0_length_8abf5 cJ0_length_8abf5 1 (some .int) :: aWS) (aRn 1) (aPn ad A [.ref (ad x)]) (aQn (Int32.ofNat (asl x))) 0 0 (fun _ => False) := by
  refine metF (cc := cJ0_length_8abf5) (maxL := 1) (ret := some .int) (by decide +kernel) rfl ?_
  intro p e s m args below meth c s₁ B hml hv
  obtain ⟨rfl, hz⟩ := hv
  have hx := B.exec
  have hb := B.bytes
  have hr := B.returns
  have hts := atoms_spec B.pre
  have hown : s.vm.findClass RJ0 = some m.cls := findClass_of_methodNamed B.named
  have hlocks := B.notSynchronized
  have hl := lv_entry ([.ref (ad x)]) (n := 1) (Nat.le_of_ble_eq_true rfl)
  rw [lg_entry_eq]
  generalize (lg_sl ([.ref (ad x)]) ++ List.replicate (1 - (lg_sl ([.ref (ad x)])).length) Slot.unset).toArray = ls at hl ⊢
  have hl : lv_has ls 1 [(0, .ref (ad x))] := hl
  have hS : va_S A s.heap s.heap [] := va_S.rf
  obtain ⟨hO, hC, hV, hT⟩ := hz.1.2.2.2.1 x h1 h2
  have hts' : ∀ w ∈ aWS, w.before (#[.ref (ad x)] : Array Value) s = true := fun w hw => hts w (List.mem_cons_of_mem _ hw)
  refine lv_aload_n hx hb ddJ0_length_8abf5_0 rfl (lv_at hl 0 rfl) ?_
  refine vk_getf hx hb hV hS hown (hts' _ aT_va) (fun _ h => h) ddJ0_length_8abf5_1 ?_
  refine va_tlen hx hb hT hS rfl ddJ0_length_8abf5_4 ?_
  refine lv_aload_n hx hb ddJ0_length_8abf5_5 rfl (lv_at hl 0 rfl) ?_
  refine r_runN (va_runV (As := []) (rest := [.int (Int32.ofNat (asl x))]) (Ts := aWS) ⟨hx, hb, hml, hown, hts'⟩ (c_coder l ad A h1 h2) (cwV 0 hts' (aGoodN aT_cc aT_cl aT_ci aT_ce aT_in) rfl rfl rfl ⟨rfl, by decide, by decide, by decide +kernel⟩ ⟨Nat.le_refl _, by decide⟩) ⟨aPn_blind, ?_, fun U hU hW => ⟨rfl, aZX_ok.2 s U s.heap [] hz hW hS hU⟩⟩ rfl rfl hl.1 rfl (lv_room (Nat.le_of_ble_eq_true rfl)) ddJ0_length_8abf5_6 ⟨Nat.le_refl _, Nat.le_refl _⟩) ?_
  · obtain ⟨cell, g1, g2, g3, -⟩ := hO
    exact ⟨cell, g1, g2, g3⟩
  · refine lv_ishr hx hb ddJ0_length_8abf5_9 ?_
    rw [sb_shr0]
    exact W.iret hx hb hr (fun t ht hW => ⟨rfl, ht⟩) (fun _ h => by cases h) ddJ0_length_8abf5_10 hlocks
theorem ddJ0_checkIndex_df160_0 : decode cJ0_checkIndex_df160 0 = .ok (.iload_n 0, 1) := by decide +kernel
theorem ddJ0_checkIndex_df160_1 : decode cJ0_checkIndex_df160 1 = .ok (.iload_n 1, 1) := by decide +kernel
theorem ddJ0_checkIndex_df160_2 : decode cJ0_checkIndex_df160 2 = .ok (.getstatic 1053, 3) := by decide +kernel
theorem ddJ0_checkIndex_df160_5 : decode cJ0_checkIndex_df160 5 = .ok (.invokestatic 1059, 3) := by decide +kernel
theorem ddJ0_checkIndex_df160_8 : decode cJ0_checkIndex_df160 8 = .ok (.pop, 1) := by decide +kernel
theorem ddJ0_checkIndex_df160_9 : decode cJ0_checkIndex_df160 9 = .ok (.return_, 1) := by decide +kernel
theorem aT_pl : Cond.methodLink RJ0 1059 yJ3_checkIndex_8e157 ∈ aWS := aW_t 480 (by decide +kernel) (by decide +kernel)
theorem aT_ps : Cond.static yJ3_checkIndex_8e157 ∈ aWS := aW_t 481 (by decide +kernel) (by decide +kernel)
theorem aT_pc : Cond.code yJ3_checkIndex_8e157 cJ3_checkIndex_8e157 3 (some .int) ∈ aWS := aW_t 482 (by decide +kernel) (by decide +kernel)
theorem aT_pi : Cond.initialized yJ3_checkIndex_8e157.cls ∈ aWS := aW_t 18 (by decide +kernel) (by decide +kernel)
theorem aT_sf : Cond.fieldLink RJ0 1053 "jdk/internal/util/Preconditions" "SIOOBE_FORMATTER" "Ljava/util/function/BiFunction;" ∈ aWS := aW_t 478 (by decide +kernel) (by decide +kernel)
set_option maxRecDepth 100000 in
theorem c_pci (l : Launch) (ad : Nat → Nat) (A : Nat → Prop) {i n : Int32} (f : Option Nat) (h0 : ¬ i < 0) (h1 : i < n) : Met l yJ3_checkIndex_8e157 (Cond.code yJ3_checkIndex_8e157 cJ3_checkIndex_8e157 3 (some .int) :: aWS) (aRn 0) (aPn ad A [.int i, .int n, va_rf f]) (aQn i) 0 0 (fun _ => False) := by
  refine metF (cc := cJ3_checkIndex_8e157) (maxL := 3) (ret := some .int) (by decide +kernel) rfl ?_
  intro p e s m args below meth c s₁ B hml hv
  obtain ⟨rfl, hz⟩ := hv
  have hx := B.exec
  have hb := B.bytes
  have hr := B.returns
  have hlocks := B.notSynchronized
  have hcat : (va_rf f).category = 1 := by cases f <;> rfl
  have hsl : lg_sl [.int i, .int n, va_rf f] = [.val (.int i), .val (.int n), .val (va_rf f)] := by cases f <;> rfl
  have hl := lv_entry ([.int i, .int n, va_rf f]) (n := 3) (by rw [hsl]; exact Nat.le_of_ble_eq_true rfl)
  rw [lg_entry_eq]
  generalize (lg_sl [.int i, .int n, va_rf f] ++ List.replicate (3 - (lg_sl [.int i, .int n, va_rf f]).length) Slot.unset).toArray = ls at hl ⊢
  have g0 : ls[0]? = some (.val (.int i)) := lv_at hl 0 rfl
  have g1 : ls[1]? = some (.val (.int n)) := lv_at hl 1 rfl
  refine lv_iload_n hx hb ddJ3_checkIndex_8e157_0 rfl g0 ?_
  refine lv_if_lt (tgt := 9) hx hb ddJ3_checkIndex_8e157_1 rfl (fun z => absurd z h0) (fun _ => ?_)
  refine lv_iload_n hx hb ddJ3_checkIndex_8e157_4 rfl g0 ?_
  refine lv_iload_n hx hb ddJ3_checkIndex_8e157_5 rfl g1 ?_
  refine lv_icmp_lt (tgt := 16) hx hb ddJ3_checkIndex_8e157_6 rfl (fun _ => ?_) (fun z => absurd h1 z)
  refine lv_iload_n hx hb ddJ3_checkIndex_8e157_16 rfl g0 ?_
  exact W.iret hx hb hr (fun t ht hW => ⟨rfl, ht⟩) (fun _ h => by cases h) ddJ3_checkIndex_8e157_17 hlocks
def aQv0 : Array Value → State → Outcome → State → Prop := fun _ st o t => o = .returned none ∧ t.heap = st.heap
set_option maxRecDepth 100000 in
theorem c_sci (l : Launch) (ad : Nat → Nat) (A : Nat → Prop) {i n : Int32} (h0 : ¬ i < 0) (h1 : i < n) : Met l yJ0_checkIndex_df160 (Cond.code yJ0_checkIndex_df160 cJ0_checkIndex_df160 2 none :: aWS) (aRn 1) (aPn ad A [.int i, .int n]) aQv0 0 0 (fun _ => False) := by
  refine metF (cc := cJ0_checkIndex_df160) (maxL := 2) (ret := none) (by decide +kernel) rfl ?_
  intro p e s m args below meth c s₁ B hml hv
  obtain ⟨rfl, hz⟩ := hv
  have hx := B.exec
  have hb := B.bytes
  have hr := B.returns
  have hts := atoms_spec B.pre
  have hts' : ∀ w ∈ aWS, w.before (#[.int i, .int n] : Array Value) s = true := fun w hw => hts w (List.mem_cons_of_mem _ hw)
  have hown : s.vm.findClass RJ0 = some m.cls := findClass_of_methodNamed B.named
  have hlocks := B.notSynchronized
  have hl := lv_entry ([.int i, .int n]) (n := 2) (Nat.le_of_ble_eq_true rfl)
  rw [lg_entry_eq]
  generalize (lg_sl [.int i, .int n] ++ List.replicate (2 - (lg_sl [.int i, .int n]).length) Slot.unset).toArray = ls at hl ⊢
  have g0 : ls[0]? = some (.val (.int i)) := lv_at hl 0 rfl
  have g1 : ls[1]? = some (.val (.int n)) := lv_at hl 1 rfl
  have hS : va_S A s.heap s.heap [] := va_S.rf
  refine lv_iload_n hx hb ddJ0_checkIndex_df160_0 rfl g0 ?_
  refine lv_iload_n hx hb ddJ0_checkIndex_df160_1 rfl g1 ?_
  have hq : ∃ f : Option Nat, va_Z "jdk/internal/util/Preconditions" "SIOOBE_FORMATTER" "Ljava/util/function/BiFunction;" (va_rf f) A s s.heap := by
    rcases hz.1.2.2.2.2.2 with z | ⟨t, z⟩
    · exact ⟨none, z⟩
    · exact ⟨some t, z⟩
  obtain ⟨f, hq⟩ := hq
  refine va_gets hx hb hq hS hown (hts' _ aT_sf) (fun _ h => h) ddJ0_checkIndex_df160_2 ?_
  refine r_runN (va_runS (As := [.int i, .int n, va_rf f]) (rest := []) (Ts := aWS) ⟨hx, hb, hml, hown, hts'⟩ (c_pci l ad A f h0 h1) ⟨callB_of 3 hts' (aGood (ws := []) aT_pc (fun _ h => by cases h)) rfl rfl rfl (hts' _ aT_pi) (hts' _ aT_pl) ⟨by decide, by decide, by decide +kernel⟩ ⟨Nat.le_refl _, by decide⟩, hts' _ aT_ps⟩ ⟨aPn_blind, fun U hU hW => ⟨rfl, aZX_ok.2 s U s.heap [] hz hW hS hU⟩⟩ rfl rfl hl.1 rfl (lv_room (by decide)) ddJ0_checkIndex_df160_5 ⟨Nat.le_refl _, Nat.le_refl _⟩) ?_
  refine lv_pop hx hb ddJ0_checkIndex_df160_8 rfl ?_
  exact W.vret hx hb hr (fun t ht hW => ⟨rfl, ht⟩) (fun _ h => by cases h) ddJ0_checkIndex_df160_9 hlocks
theorem ddJ1_charAt_3b067_0 : decode cJ1_charAt_3b067 0 = .ok (.iload_n 1, 1) := by decide +kernel
theorem ddJ1_charAt_3b067_1 : decode cJ1_charAt_3b067 1 = .ok (.aload_n 0, 1) := by decide +kernel
theorem ddJ1_charAt_3b067_2 : decode cJ1_charAt_3b067 2 = .ok (.arraylength, 1) := by decide +kernel
theorem ddJ1_charAt_3b067_3 : decode cJ1_charAt_3b067 3 = .ok (.invokestatic 9, 3) := by decide +kernel
theorem ddJ1_charAt_3b067_6 : decode cJ1_charAt_3b067 6 = .ok (.aload_n 0, 1) := by decide +kernel
theorem ddJ1_charAt_3b067_7 : decode cJ1_charAt_3b067 7 = .ok (.iload_n 1, 1) := by decide +kernel
theorem ddJ1_charAt_3b067_8 : decode cJ1_charAt_3b067 8 = .ok (.baload, 1) := by decide +kernel
theorem ddJ1_charAt_3b067_9 : decode cJ1_charAt_3b067 9 = .ok (.sipush 255, 3) := by decide +kernel
theorem ddJ1_charAt_3b067_12 : decode cJ1_charAt_3b067 12 = .ok (.iand, 1) := by decide +kernel
theorem ddJ1_charAt_3b067_13 : decode cJ1_charAt_3b067 13 = .ok (.i2c, 1) := by decide +kernel
theorem ddJ1_charAt_3b067_14 : decode cJ1_charAt_3b067 14 = .ok (.ireturn, 1) := by decide +kernel
theorem ddJ0_charAt_5068e_0 : decode cJ0_charAt_5068e 0 = .ok (.aload_n 0, 1) := by decide +kernel
theorem ddJ0_charAt_5068e_1 : decode cJ0_charAt_5068e 1 = .ok (.invokevirtual 492, 3) := by decide +kernel
theorem ddJ0_charAt_5068e_4 : decode cJ0_charAt_5068e 4 = .ok (.ifCond .eq 12, 3) := by decide +kernel
theorem ddJ0_charAt_5068e_7 : decode cJ0_charAt_5068e 7 = .ok (.aload_n 0, 1) := by decide +kernel
theorem ddJ0_charAt_5068e_8 : decode cJ0_charAt_5068e 8 = .ok (.getfield 9, 3) := by decide +kernel
theorem ddJ0_charAt_5068e_11 : decode cJ0_charAt_5068e 11 = .ok (.iload_n 1, 1) := by decide +kernel
theorem ddJ0_charAt_5068e_12 : decode cJ0_charAt_5068e 12 = .ok (.invokestatic 495, 3) := by decide +kernel
theorem ddJ0_charAt_5068e_15 : decode cJ0_charAt_5068e 15 = .ok (.ireturn, 1) := by decide +kernel
theorem ddJ0_charAt_5068e_16 : decode cJ0_charAt_5068e 16 = .ok (.aload_n 0, 1) := by decide +kernel
theorem ddJ0_charAt_5068e_17 : decode cJ0_charAt_5068e 17 = .ok (.getfield 9, 3) := by decide +kernel
theorem ddJ0_charAt_5068e_20 : decode cJ0_charAt_5068e 20 = .ok (.iload_n 1, 1) := by decide +kernel
theorem ddJ0_charAt_5068e_21 : decode cJ0_charAt_5068e 21 = .ok (.invokestatic 498, 3) := by decide +kernel
theorem ddJ0_charAt_5068e_24 : decode cJ0_charAt_5068e 24 = .ok (.ireturn, 1) := by decide +kernel
theorem aT_kl : Cond.methodLink RJ1 9 yJ0_checkIndex_df160 ∈ aWS := aW_t 475 (by decide +kernel) (by decide +kernel)
theorem aT_ks : Cond.static yJ0_checkIndex_df160 ∈ aWS := aW_t 476 (by decide +kernel) (by decide +kernel)
theorem aT_kc : Cond.code yJ0_checkIndex_df160 cJ0_checkIndex_df160 2 none ∈ aWS := aW_t 477 (by decide +kernel) (by decide +kernel)
theorem aT_ll : Cond.methodLink RJ0 495 yJ1_charAt_3b067 ∈ aWS := aW_t 472 (by decide +kernel) (by decide +kernel)
theorem aT_ls : Cond.static yJ1_charAt_3b067 ∈ aWS := aW_t 473 (by decide +kernel) (by decide +kernel)
theorem aT_lc : Cond.code yJ1_charAt_3b067 cJ1_charAt_3b067 2 (some .char) ∈ aWS := aW_t 474 (by decide +kernel) (by decide +kernel)
theorem aT_li : Cond.initialized yJ1_charAt_3b067.cls ∈ aWS := aW_t 17 (by decide +kernel) (by decide +kernel)
theorem aT_ic : Cond.code yJ0_isLatin1_aae02 cJ0_isLatin1_aae02 1 (some .boolean) ∈ aWS := aW_t 471 (by decide +kernel) (by decide +kernel)
theorem aT_il : Cond.methodLink RJ0 492 yJ0_isLatin1_aae02 ∈ aWS := aW_t 468 (by decide +kernel) (by decide +kernel)
theorem aT_ii : Cond.instanceMethod yJ0_isLatin1_aae02 ∈ aWS := aW_t 469 (by decide +kernel) (by decide +kernel)
theorem aT_ie : Cond.selects RJ0 yJ0_isLatin1_aae02 yJ0_isLatin1_aae02 ∈ aWS := aW_t 470 (by decide +kernel) (by decide +kernel)
theorem ast_ok : ∀ j, j < 100 → ((ast (2200 + j)).all fun b => decide (b &&& 255 = b)) = true := by decide +kernel
theorem asc_ok {x k : Nat} (h1 : 2200 ≤ x) (h2 : x ≤ 2299) : asc x k &&& 255 = asc x k := by
  have h := ast_ok (x - 2200) (by omega)
  rw [show 2200 + (x - 2200) = x from by omega] at h
  unfold asc
  rw [List.getD_eq_getElem?_getD]
  cases hk : (ast x)[k]? with
  | none => rfl
  | some b => exact of_decide_eq_true (List.all_eq_true.mp h b (List.mem_of_getElem? hk))
theorem r_runV0 {p : Program} {l : Launch} {e : Env} {R : Room} {s : State} {m : MethodId} {args : Array Value} {below : List Frame} {meth : Method} {c : Code} {H : Heap} {locs : List Loc} {Qs : State → Prop} {pc : Nat} {B : Array Slot} {a' : Array Value} {st0 rest : List Value} (hr : va_Run p l e R s m args below meth c H locs 0 0 0 0 (F0 m pc B st0) rest (aQv0 a') (fun _ => False))
    (kk : W p l e R s m args below meth c H locs 0 0 Qs (F0 m (pc + 3) B rest)) : W p l e R s m args below meth c H locs 0 0 Qs (F0 m pc B st0) := by
  intro T hT X
  obtain ⟨v1, st₀, t, T', L, h0, X', hL, e1, e2, ⟨hv, hh⟩, stp⟩ := hr T hT X
  cases hv
  have hLn : L = [] := by
    cases L with
    | nil => rfl
    | cons a t => exact (hL a List.mem_cons_self).elim
  subst hLn
  rw [List.append_nil] at X'
  obtain ⟨t2, a1, b1⟩ := kk T' (by rw [e1, hh, h0]) X'
  exact ⟨t2, stp t2 a1, b1⟩
set_option maxRecDepth 100000 in
theorem c_lat (l : Launch) (ad : Nat → Nat) (A : Nat → Prop) {x : Nat} {i : Int32} (h1 : 2200 ≤ x) (h2 : x ≤ 2299) (hi : vp_in i (asl x)) (hi2 : i < Int32.ofNat (asl x)) : Met l yJ1_charAt_3b067 (Cond.code yJ1_charAt_3b067 cJ1_charAt_3b067 2 (some .char) :: aWS) (aRn 2) (aPn ad A [.ref (ad (x + 200)), .int i]) (aQn (asc x i.toNatClampNeg)) 0 0 (fun _ => False) := by
  refine metF (cc := cJ1_charAt_3b067) (maxL := 2) (ret := some .char) (by decide +kernel) rfl ?_
  intro p e s m args below meth c s₁ B hml hv
  obtain ⟨rfl, hz⟩ := hv
  have hx := B.exec
  have hb := B.bytes
  have hr := B.returns
  have hts := atoms_spec B.pre
  have hts' : ∀ w ∈ aWS, w.before (#[.ref (ad (x + 200)), .int i] : Array Value) s = true := fun w hw => hts w (List.mem_cons_of_mem _ hw)
  have hown : s.vm.findClass RJ1 = some m.cls := findClass_of_methodNamed B.named
  have hlocks := B.notSynchronized
  have hl := lv_entry ([.ref (ad (x + 200)), .int i]) (n := 2) (Nat.le_of_ble_eq_true rfl)
  rw [lg_entry_eq]
  generalize (lg_sl [.ref (ad (x + 200)), .int i] ++ List.replicate (2 - (lg_sl [.ref (ad (x + 200)), .int i]).length) Slot.unset).toArray = ls at hl ⊢
  have g0 : ls[0]? = some (.val (.ref (ad (x + 200)))) := lv_at hl 0 rfl
  have g1 : ls[1]? = some (.val (.int i)) := lv_at hl 1 rfl
  have hS : va_S A s.heap s.heap [] := va_S.rf
  obtain ⟨hO, hC, hV, hT⟩ := hz.1.2.2.2.1 x h1 h2
  refine lv_iload_n hx hb ddJ1_charAt_3b067_0 rfl g1 ?_
  refine lv_aload_n hx hb ddJ1_charAt_3b067_1 rfl g0 ?_
  refine va_tlen hx hb hT hS rfl ddJ1_charAt_3b067_2 ?_
  refine r_runV0 (va_runS (As := [.int i, .int (Int32.ofNat (asl x))]) (rest := []) (Ts := aWS) ⟨hx, hb, hml, hown, hts'⟩ (c_sci l ad A (fun z => hi (Or.inl z)) hi2) ⟨callB_of 2 hts' (aGood (ws := []) aT_kc (fun _ h => by cases h)) rfl rfl rfl (hts' _ aT_in) (hts' _ aT_kl) ⟨by decide, by decide, by decide +kernel⟩ ⟨Nat.le_refl _, by decide⟩, hts' _ aT_ks⟩ ⟨aPn_blind, fun U hU hW => ⟨rfl, aZX_ok.2 s U s.heap [] hz hW hS hU⟩⟩ rfl rfl hl.1 rfl (lv_room (by decide)) ddJ1_charAt_3b067_3 ⟨Nat.le_refl _, Nat.le_refl _⟩) ?_
  refine lv_aload_n hx hb ddJ1_charAt_3b067_6 rfl g0 ?_
  refine lv_iload_n hx hb ddJ1_charAt_3b067_7 rfl g1 ?_
  refine va_tb hx hb hT hS hi rfl ddJ1_charAt_3b067_8 ?_
  refine lv_sipush (v := 255) hx hb ddJ1_charAt_3b067_9 (by decide) ?_
  refine lv_iand hx hb ddJ1_charAt_3b067_12 ?_
  refine lv_i2c hx hb ddJ1_charAt_3b067_13 rfl ?_
  rw [sc_c2]
  refine W.zret (ty := .char) hx hb hr (sc_nar _) (fun t ht hW => ⟨?_, ht⟩) (fun _ h => by cases h) ddJ1_charAt_3b067_14 hlocks
  rw [asc_ok h1 h2]
set_option maxRecDepth 100000 in
theorem c_charAt (l : Launch) (ad : Nat → Nat) (A : Nat → Prop) {x : Nat} {i : Int32} (h1 : 2200 ≤ x) (h2 : x ≤ 2299) (hi : vp_in i (asl x)) (hi2 : i < Int32.ofNat (asl x)) : Met l yJ0_charAt_5068e (Cond.code yJ0_charAt_5068e cJ0_charAt_5068e 2 (some .char) :: aWS) (aRn 3) (aPn ad A [.ref (ad x), .int i]) (aQn (asc x i.toNatClampNeg)) 0 0 (fun _ => False) := by
  refine metF (cc := cJ0_charAt_5068e) (maxL := 2) (ret := some .char) (by decide +kernel) rfl ?_
  intro p e s m args below meth c s₁ B hml hv
  obtain ⟨rfl, hz⟩ := hv
  have hx := B.exec
  have hb := B.bytes
  have hr := B.returns
  have hts := atoms_spec B.pre
  have hts' : ∀ w ∈ aWS, w.before (#[.ref (ad x), .int i] : Array Value) s = true := fun w hw => hts w (List.mem_cons_of_mem _ hw)
  have hown : s.vm.findClass RJ0 = some m.cls := findClass_of_methodNamed B.named
  have hlocks := B.notSynchronized
  have hl := lv_entry ([.ref (ad x), .int i]) (n := 2) (Nat.le_of_ble_eq_true rfl)
  rw [lg_entry_eq]
  generalize (lg_sl [.ref (ad x), .int i] ++ List.replicate (2 - (lg_sl [.ref (ad x), .int i]).length) Slot.unset).toArray = ls at hl ⊢
  have g0 : ls[0]? = some (.val (.ref (ad x))) := lv_at hl 0 rfl
  have g1 : ls[1]? = some (.val (.int i)) := lv_at hl 1 rfl
  have hS : va_S A s.heap s.heap [] := va_S.rf
  obtain ⟨hO, hC, hV, hT⟩ := hz.1.2.2.2.1 x h1 h2
  have hrv : ∃ cell : Cell, s.heap[ad x]? = some cell ∧ cell.vm.isStatics = false ∧ s.vm.findClass RJ0 = some cell.cls := by
    obtain ⟨cell, q1, q2, q3, -⟩ := hO
    exact ⟨cell, q1, q2, q3⟩
  refine lv_aload_n hx hb ddJ0_charAt_5068e_0 rfl g0 ?_
  refine r_runN (va_runV (As := []) (rest := []) (Ts := aWS) ⟨hx, hb, hml, hown, hts'⟩ (c_isLatin1 l ad A h1 h2) (cwV 0 hts' (aGoodN aT_ic aT_il aT_ii aT_ie aT_in) rfl rfl rfl ⟨rfl, by decide, by decide, by decide +kernel⟩ ⟨by decide, by decide⟩) ⟨aPn_blind, hrv, fun U hU hW => ⟨rfl, aZX_ok.2 s U s.heap [] hz hW hS hU⟩⟩ rfl rfl hl.1 rfl (lv_room (by decide)) ddJ0_charAt_5068e_1 ⟨Nat.le_refl _, Nat.le_refl _⟩) ?_
  refine lv_if_eq (tgt := 16) hx hb ddJ0_charAt_5068e_4 rfl (fun z => absurd z (by decide)) (fun _ => ?_)
  refine lv_aload_n hx hb ddJ0_charAt_5068e_7 rfl g0 ?_
  refine vk_getf hx hb hV hS hown (hts' _ aT_va) (fun _ h => h) ddJ0_charAt_5068e_8 ?_
  refine lv_iload_n hx hb ddJ0_charAt_5068e_11 rfl g1 ?_
  refine r_runN (va_runS (As := [.ref (ad (x + 200)), .int i]) (rest := []) (Ts := aWS) ⟨hx, hb, hml, hown, hts'⟩ (c_lat l ad A h1 h2 hi hi2) ⟨callB_of 2 hts' (aGood (ws := []) aT_lc (fun _ h => by cases h)) rfl rfl rfl (hts' _ aT_li) (hts' _ aT_ll) ⟨by decide, by decide, by decide +kernel⟩ ⟨Nat.le_refl _, by decide⟩, hts' _ aT_ls⟩ ⟨aPn_blind, fun U hU hW => ⟨rfl, aZX_ok.2 s U s.heap [] hz hW hS hU⟩⟩ rfl rfl hl.1 rfl (lv_room (by decide)) ddJ0_charAt_5068e_12 ⟨Nat.le_refl _, Nat.le_refl _⟩) ?_
  refine W.zret (ty := .char) hx hb hr ?_ (fun t ht hW => ⟨rfl, ht⟩) (fun _ h => by cases h) ddJ0_charAt_5068e_15 hlocks
  rw [← asc_ok h1 h2]
  exact sc_nar _
end
section
/-! the class's further steps: all of them -/
theorem asl_ok : ∀ j, j < 100 → asl (2200 + j) ≤ 8 := by decide +kernel
theorem asl_lt {x : Nat} {i : Int32} (h1 : 2200 ≤ x) (h2 : x ≤ 2299) (hi : vp_in i (asl x)) : i < Int32.ofNat (asl x) := by
  have h := asl_ok (x - 2200) (by omega)
  rw [show 2200 + (x - 2200) = x from by omega] at h
  obtain ⟨j, hj, rfl⟩ := vp_in_of hi (by omega)
  exact nI_lt hj (by omega)
theorem aT_xc : Cond.code yJ0_length_8abf5 cJ0_length_8abf5 1 (some .int) ∈ aWS := aW_t 457 (by decide +kernel) (by decide +kernel)
theorem aT_xi : Cond.instanceMethod yJ0_length_8abf5 ∈ aWS := aW_t 455 (by decide +kernel) (by decide +kernel)
theorem aT_xe : Cond.selects RJ0 yJ0_length_8abf5 yJ0_length_8abf5 ∈ aWS := aW_t 456 (by decide +kernel) (by decide +kernel)
theorem aT_yc : Cond.code yJ0_charAt_5068e cJ0_charAt_5068e 2 (some .char) ∈ aWS := aW_t 467 (by decide +kernel) (by decide +kernel)
theorem aT_yi : Cond.instanceMethod yJ0_charAt_5068e ∈ aWS := aW_t 465 (by decide +kernel) (by decide +kernel)
theorem aT_ye : Cond.selects RJ0 yJ0_charAt_5068e yJ0_charAt_5068e ∈ aWS := aW_t 466 (by decide +kernel) (by decide +kernel)
section
variable {p : Program} {l : Launch} {e : Env} {s : State} {m : MethodId} {args : Array Value} {below : List Frame} {meth : Method} {c : Code} {cc : ByteArray} {nL on : Nat} {ad : Nat → Nat} {cy : Nat → ClassId} {D : va_G} {ids : List Nat} {A : Nat → Prop} {Qs : State → Prop} {d : Nat} {pc : Nat} {B : Array Slot} {H : Heap} {locs : List Loc} {rest : List Value} {ls : aLs}
theorem r_len (X : aCx p s m args c cc nL on ad cy D ids A rkX (aZX ad A)) {i x : Nat} (h1 : 2200 ≤ x) (h2 : x ≤ 2299) (hl : (on, i, 5003, 0) ∈ lkX) (hs : acs rest ≤ 8) (hd : decode cc pc = .ok (.invokevirtual i, 3)) (hl9 : aHas ad B nL ls) (hS : va_S A s.heap H locs)
    (kk : W p l e (aRm (d + 1)) s m args below meth c H locs 0 0 Qs (F0 m (pc + 3) B (.int (Int32.ofNat (asl x)) :: rest.map (atv ad)))) : W p l e (aRm (d + 1)) s m args below meth c H locs 0 0 Qs (F0 m pc B (.ref (ad x) :: rest.map (atv ad))) := by
  obtain ⟨hexec, hb, hml, hown, hts, hnw, hK, hn, hA, hi, hreg, hz, had⟩ := X
  obtain ⟨cell, q1, q2, q3, -⟩ := (hz.1.2.2.2.1 x h1 h2).1.kept hS.2.1
  exact r_runN (va_runV (As := []) (rest := rest.map (atv ad)) (Ts := aWS) ⟨hexec, hb, hml, hown, hts⟩ (c_length l ad A h1 h2) (cwV 0 hts (aGoodN aT_xc ((lkX_ok _ hl).2.2.2.1 rfl) aT_xi aT_xe aT_in) rfl rfl rfl ⟨rfl, by decide, by decide, by decide +kernel⟩ ⟨by show 1 + 1 ≤ d + 1 + 5; omega, by show 8 + (1 + 11) + 120 * 1 ≤ 120 * (d + 1 + 5); omega⟩) ⟨aPn_blind, ⟨cell, q1, q2, q3⟩, fun U hU hW => ⟨rfl, aZX_ok.2 s U H locs hz hW hS hU⟩⟩ rfl rfl hl9.2.1 rfl (lv_room (by rw [acs_map]; exact hs)) hd ⟨Nat.le_refl _, Nat.le_refl _⟩) kk
theorem r_chr (X : aCx p s m args c cc nL on ad cy D ids A rkX (aZX ad A)) {i x : Nat} {k : Int32} (h1 : 2200 ≤ x) (h2 : x ≤ 2299) (hk : vp_in k (asl x)) (hl : (on, i, 5004, 0) ∈ lkX) (hs : acs rest ≤ 8) (hd : decode cc pc = .ok (.invokevirtual i, 3)) (hl9 : aHas ad B nL ls) (hS : va_S A s.heap H locs)
    (kk : W p l e (aRm (d + 1)) s m args below meth c H locs 0 0 Qs (F0 m (pc + 3) B (.int (asc x k.toNatClampNeg) :: rest.map (atv ad)))) : W p l e (aRm (d + 1)) s m args below meth c H locs 0 0 Qs (F0 m pc B (.int k :: .ref (ad x) :: rest.map (atv ad))) := by
  obtain ⟨hexec, hb, hml, hown, hts, hnw, hK, hn, hA, hi, hreg, hz, had⟩ := X
  obtain ⟨cell, q1, q2, q3, -⟩ := (hz.1.2.2.2.1 x h1 h2).1.kept hS.2.1
  exact r_runN (va_runV (As := [.int k]) (rest := rest.map (atv ad)) (Ts := aWS) ⟨hexec, hb, hml, hown, hts⟩ (c_charAt l ad A h1 h2 hk (asl_lt h1 h2 hk)) (cwV 1 hts (aGoodN aT_yc ((lkX_ok _ hl).2.2.2.2.1 rfl) aT_yi aT_ye aT_in) rfl rfl rfl ⟨rfl, by decide, by decide, by decide +kernel⟩ ⟨by show 3 + 1 ≤ d + 1 + 5; omega, by show 8 + (2 + 11) + 120 * 3 ≤ 120 * (d + 1 + 5); omega⟩) ⟨aPn_blind, ⟨cell, q1, q2, q3⟩, fun U hU hW => ⟨rfl, aZX_ok.2 s U H locs hz hW hS hU⟩⟩ rfl rfl hl9.2.1 rfl (lv_room (by rw [acs_map]; exact hs)) hd ⟨Nat.le_refl _, Nat.le_refl _⟩) kk
end
end
section
theorem aO_g : ∀ own i, Cond.methodLink own i ySo ∈ aWS → GoodIn aWS (va_wsU own i RX9 "java/lang/Enum" ySo yJx29ce0_ordinal_8abf5 (Cond.code yJx29ce0_ordinal_8abf5 cJx29ce0_ordinal_8abf5 1 (some .int) :: aWS)) := fun own i h => aGood aO_c fun w hw => by
  rcases List.mem_cons.mp hw with z | hw
  · rw [z]; exact h
  · rcases List.mem_cons.mp hw with z | hw
    · rw [z]; exact aW_t 512 (by decide +kernel) (by decide +kernel)
    · rcases List.mem_cons.mp hw with z | hw
      · rw [z]; exact aW_t 514 (by decide +kernel) (by decide +kernel)
      · rcases List.mem_cons.mp hw with z | hw
        · rw [z]; exact aW_t 515 (by decide +kernel) (by decide +kernel)
        · rcases List.mem_cons.mp hw with z | hw
          · rw [z]; exact aW_t 3 (by decide +kernel) (by decide +kernel)
          · cases hw
theorem pcp_inv {Z : aLs → List Value → aS → Prop} {st : List Value} {k : Nat → Int32 → Nat → Int32 → Int32 → List Value → aT} (h : aTP (pcp st k) Z) : ∃ x sp y dp n r, st = .int n :: .int dp :: .ref y :: .int sp :: .ref x :: r ∧ aTP (k x sp y dp n r) Z := by
  unfold pcp at h; split at h
  · exact ⟨_, _, _, _, _, _, rfl, h⟩
  · exact h.elim
theorem aTP_cond {b : Bool} {t : aT} {Z : aLs → List Value → aS → Prop} (h : aTP (cond b t none) Z) : b = true ∧ aTP t Z := by
  cases b with
  | true => exact ⟨rfl, h⟩
  | false => exact h.elim
section
variable {p : Program} {l : Launch} {e : Env} {s : State} {m : MethodId} {args : Array Value} {below : List Frame} {meth : Method} {c : Code} {cc : ByteArray} {nL on : Nat} {ad : Nat → Nat} {cy : Nat → ClassId} {D : va_G} {ids : List Nat} {A : Nat → Prop} {Qs : State → Prop} {d : Nat} {pc : Nat} {B : Array Slot} {H : Heap} {locs : List Loc} {rest : List Value} {ls : aLs}
theorem r_ord (X : aCx p s m args c cc nL on ad cy D ids A rkX (aZX ad A)) {i k : Nat} (hk : k < 33) (hl : (on, i, 5005, 0) ∈ lkX) (hs : acs rest ≤ 8) (hd : decode cc pc = .ok (.invokevirtual i, 3)) (hl9 : aHas ad B nL ls) (hS : va_S A s.heap H locs)
    (kk : W p l e (aRm (d + 1)) s m args below meth c H locs 0 0 Qs (F0 m (pc + 3) B (.int (Int32.ofNat k) :: rest.map (atv ad)))) : W p l e (aRm (d + 1)) s m args below meth c H locs 0 0 Qs (F0 m pc B (.ref (ad (2000 + k)) :: rest.map (atv ad))) := by
  obtain ⟨hexec, hb, hml, hown, hts, hnw, hK, hn, hA, hi, hreg, hz, had⟩ := X
  obtain ⟨cell, q1, q2, q3, -⟩ := (hz.1.1 k hk).2.1.kept hS.2.1
  exact r_runN (va_runU (As := []) (rest := rest.map (atv ad)) (Ts := aWS) ⟨hexec, hb, hml, hown, hts⟩ (c_ordinal l ad A hk) (va_cwU 0 hts (aO_g _ _ ((lkX_ok _ hl).2.2.2.2.2 rfl)) rfl rfl rfl rfl ⟨by decide, by decide, by decide +kernel⟩ ⟨by show 0 + 1 ≤ d + 1 + 5; omega, by show 8 + (1 + 11) + 120 * 0 ≤ 120 * (d + 1 + 5); omega⟩) ⟨aPn_blind, ⟨cell, q1, q2, q3⟩, fun U hU hW => ⟨rfl, aZX_ok.2 s U H locs hz hW hS hU⟩⟩ rfl rfl hl9.2.1 rfl (lv_room (by rw [acs_map]; exact hs)) hd ⟨Nat.le_refl _, Nat.le_refl _⟩) kk
theorem acr_le {st : List Value} {k : Nat} (h : acr st k = true) : acs (st.drop k) ≤ 8 := Nat.le_of_ble_eq_true h
theorem pxX_ok (X : aCx p s m args c cc nL on ad cy D ids A rkX (aZX ad A)) : aPx pxX ckpX p l e (aRm (d + 1)) s m args below meth c cc nL on ad cy D ids A Qs := by
  intro n ls st S Z hd hlen h5 hk h hgo
  obtain ⟨pc, i, len, cut, a, b, v, w⟩ := n
  dsimp only at hd hlen h5 hgo ⊢
  cases i with
  | invokestatic i =>
    have hk := of_decide_eq_true hk
    have hlen : len = 3 := hlen
    subst hlen
    have h : aTP (cond (Nat.beq a 5002) (cond (acr st 5) (pcp st fun x sp y dp n r => some (gK x 20, some (acpG x sp y dp n), ls, r, scp S x sp y dp n)) none) (cond (acr st 2) (pxm (pc, .invokestatic i, 3, cut, a, b, v, w) ls st S) none)) Z := h
    rcases hk with hk | ⟨hk1, hk2⟩
    · have hne : Nat.beq a 5002 = false := by
        rcases hk with ⟨h1, -⟩ | ⟨h1, -⟩ <;> (have h1 : a = _ := h1; subst h1; rfl)
      rw [hne, cond_false] at h
      obtain ⟨hc, h⟩ := aTP_cond h
      exact pxm_ok X hd rfl hk (Nat.le_trans (acr_le hc) (by decide)) h hgo
    · have hk1 : a = 5002 := hk1
      rw [show Nat.beq a 5002 = true from by rw [hk1]; rfl, cond_true] at h
      obtain ⟨hc, h⟩ := aTP_cond h
      obtain ⟨x, sp, y, dp, nn, r, rfl, h⟩ := pcp_inv h
      obtain ⟨hx, hg, h⟩ := aGK h
      intro B H locs hl hP hS
      exact r_copy X hk2 hx hg (Nat.le_trans (acr_le hc) (by decide)) hd hl hP hS fun H1 locs1 z1 z2 => hgo _ _ _ h B H1 locs1 hl z1 z2
  | invokevirtual i =>
    have hkk : (on, i, a, 0) ∈ lkX := of_decide_eq_true hk
    have hlen : len = 3 := hlen
    subst hlen
    have h : aTP (cond (Nat.beq a 5003) (cond (acr st 1) (pR st fun x r => agd (2200 ≤ x ∧ x ≤ 2299) ls (.int (Int32.ofNat (asl x)) :: r) S) none) (cond (Nat.beq a 5004) (cond (acr st 2) (pRI st fun x i r => agd ((2200 ≤ x ∧ x ≤ 2299) ∧ vp_in i (asl x)) ls (.int (asc x i.toNatClampNeg) :: r) S) none) (cond (Nat.beq a 5005) (cond (acr st 1) (pR st fun x r => some (gE x, none, ls, .int (Int32.ofNat (x - 2000)) :: r, S)) none) none))) Z := h
    cases h3 : Nat.beq a 5003 with
    | true =>
      rw [h3, cond_true] at h
      have h3 := Nat.eq_of_beq_eq_true h3
      rw [h3] at hkk
      obtain ⟨hc, h⟩ := aTP_cond h
      obtain ⟨x, r, rfl, h⟩ := pR_inv h
      intro B H locs hl hP hS
      exact r_len X h.1.1 h.1.2 hkk (acr_le hc) hd hl hS (hgo _ _ _ h.2 B H locs hl hP hS)
    | false =>
      rw [h3, cond_false] at h
      cases h4 : Nat.beq a 5004 with
      | true =>
        rw [h4, cond_true] at h
        have h4 := Nat.eq_of_beq_eq_true h4
        rw [h4] at hkk
        obtain ⟨hc, h⟩ := aTP_cond h
        obtain ⟨x, y, r, rfl, h⟩ := pRI_inv h
        intro B H locs hl hP hS
        exact r_chr X h.1.1.1 h.1.1.2 h.1.2 hkk (acr_le hc) hd hl hS (hgo _ _ _ h.2 B H locs hl hP hS)
      | false =>
        rw [h4, cond_false] at h
        cases h6 : Nat.beq a 5005 with
        | true =>
          rw [h6, cond_true] at h
          have h6 := Nat.eq_of_beq_eq_true h6
          rw [h6] at hkk
          obtain ⟨hc, h⟩ := aTP_cond h
          obtain ⟨x, r, rfl, h⟩ := pR_inv h
          obtain ⟨⟨k, hk9, rfl⟩, h⟩ := gE_inv h
          rw [show 2000 + k - 2000 = k from by omega] at h
          intro B H locs hl hP hS
          exact r_ord X hk9 hkk (acr_le hc) hd hl hS (hgo _ _ _ h B H locs hl hP hS)
        | false => rw [h6] at h; exact h.elim
  | getstatic i =>
    obtain ⟨hk1, hk2⟩ := of_decide_eq_true hk
    have hlen : len = 3 := hlen
    subst hlen
    intro B H locs hl hP hS
    exact r_static X hk2 hd hS (hgo _ _ _ h B H locs hl hP hS)
  | ldc i =>
    obtain ⟨hk1, hk2⟩ := of_decide_eq_true hk
    have hlen : len = 2 := hlen
    subst hlen
    obtain ⟨tx, htx⟩ := ldc_in _ hk2 rfl
    intro B H locs hl hP hS
    obtain ⟨hexec, hb, hml, hown, hts, hnw, hK, hn, hA, hi, hreg, hz, had⟩ := X
    exact va_ldcS hexec hb hown (hz.2 _ htx) hd (hgo _ _ _ h B H locs hl hP hS)
  | getfield i =>
    obtain ⟨hk1, hk2⟩ := of_decide_eq_true hk
    have hlen : len = 3 := hlen
    subst hlen
    have h : aTP (pR st fun x r => some (gE x, none, ls, .ref (x + 200) :: r, S)) Z := h
    obtain ⟨x, r, rfl, h⟩ := pR_inv h
    obtain ⟨⟨k, hk9, rfl⟩, h⟩ := gE_inv h
    intro B H locs hl hP hS
    have h := hgo _ _ _ h B H locs hl hP hS
    rw [show 2000 + k + 200 = 2200 + k from by omega] at h
    exact r_text X hk9 hk2 hd hS h
  | aaload =>
    have hlen : len = 1 := hlen
    subst hlen
    have h : aTP (pRI st fun x i r => cond (Nat.beq x 2100) (agd (vp_in i 33) ls (.ref (2000 + i.toNatClampNeg) :: r) S) none) Z := h
    obtain ⟨x, y, r, rfl, h⟩ := pRI_inv h
    obtain ⟨hc, h⟩ := aTP_cond h
    have hc := Nat.eq_of_beq_eq_true hc
    subst hc
    intro B H locs hl hP hS
    obtain ⟨hexec, hb, hml, hown, hts, hnw, hK, hn, hA, hi, hreg, hz, had⟩ := X
    exact vb_tq hexec hb hz.1.2.1.2 hS h.1 rfl hd (hgo _ _ _ h.2 B H locs hl hP hS)
  | arraylength =>
    have hlen : len = 1 := hlen
    subst hlen
    have h : aTP (pR st fun x r => cond (Nat.beq x 2100) (aok ls (.int 33 :: r) S) none) Z := h
    obtain ⟨x, r, rfl, h⟩ := pR_inv h
    obtain ⟨hc, h⟩ := aTP_cond h
    have hc := Nat.eq_of_beq_eq_true hc
    subst hc
    intro B H locs hl hP hS
    obtain ⟨hexec, hb, hml, hown, hts, hnw, hK, hn, hA, hi, hreg, hz, had⟩ := X
    exact va_tlen hexec hb hz.1.2.1.2 hS rfl hd (hgo _ _ _ h B H locs hl hP hS)
  | iaload =>
    have hlen : len = 1 := hlen
    subst hlen
    have h : aTP (pRI st fun x i r => cond (Nat.beq x 2101) (agd (vp_in i 33) ls (.int (asm i.toNatClampNeg) :: r) S) none) Z := h
    obtain ⟨x, y, r, rfl, h⟩ := pRI_inv h
    obtain ⟨hc, h⟩ := aTP_cond h
    have hc := Nat.eq_of_beq_eq_true hc
    subst hc
    intro B H locs hl hP hS
    obtain ⟨hexec, hb, hml, hown, hts, hnw, hK, hn, hA, hi, hreg, hz, had⟩ := X
    exact va_ti hexec hb hz.1.2.2.1.2 hS h.1 rfl hd (hgo _ _ _ h.2 B H locs hl hP hS)
  | _ => cases hk
end
end
section
/-! objects in the making: constructors run on numbers; the true machine does the same -/
/-- a cell: its kind, its length, its fields or its references (by number) -/
abbrev bC : Type := Nat × Nat × List Value
def bOp (ad : Nat → Nat) (v : Value) : Option Nat := match v with
  | .ref n => some (ad n)
  | _ => none
def bRw (ad : Nat → Nat) (c : bC) : (Nat → Int32) ⊕ (Nat → Int64) ⊕ (Nat → UInt32) ⊕ (Nat → UInt64) ⊕ (Nat → Option Nat) := match c.1 % 10 with
  | 1 => .inr (.inl fun _ => 0)
  | 4 => .inr (.inr (.inr (.inr fun k => bOp ad (c.2.2.getD k .null))))
  | 5 => .inr (.inr (.inr (.inr fun k => bOp ad (c.2.2.getD k .null))))
  | _ => .inl fun _ => 0
def bE (ad : Nat → Nat) (cy : Nat → ClassId) (c : bC) : va_E := cond (Nat.blt c.1 20) (.inr (c.1, c.2.2.map (atv ad))) (.inl (cy (c.1 % 10), c.2.1, bRw ad c))
def bW (ad : Nat → Nat) (cy : Nat → ClassId) (o : Nat) (cs : List bC) : va_W := (cs.zipIdx o).map fun q => (ad q.2, bE ad cy q.1)
theorem bW_get {ad : Nat → Nat} {cy : Nat → ClassId} {o i : Nat} {cs : List bC} {c : bC} (h : cs[i]? = some c) : (bW ad cy o cs)[i]? = some (ad (o + i), bE ad cy c) := by
  unfold bW
  rw [List.getElem?_map, List.getElem?_zipIdx, h]
  rfl
theorem bW_set {ad : Nat → Nat} {cy : Nat → ClassId} {o i : Nat} {cs : List bC} {c : bC} (hi : i < cs.length) : (bW ad cy o cs).set i (ad (o + i), bE ad cy c) = bW ad cy o (cs.set i c) := by
  apply List.ext_getElem?
  intro n
  unfold bW
  rw [List.getElem?_set, List.getElem?_map, List.getElem?_zipIdx, List.getElem?_map, List.getElem?_zipIdx, List.getElem?_set, List.length_map, List.length_zipIdx]
  by_cases e : i = n
  · subst e
    rw [if_pos rfl, if_pos hi, if_pos rfl, if_pos hi]
    rfl
  · rw [if_neg e, if_neg e]
theorem bW_push {ad : Nat → Nat} {cy : Nat → ClassId} {o : Nat} {cs : List bC} {c : bC} : bW ad cy o (cs ++ [c]) = bW ad cy o cs ++ [(ad (o + cs.length), bE ad cy c)] := by
  unfold bW
  rw [List.zipIdx_append, List.map_append]
  rfl
/-- numbers that have an address, or are constants -/
def bLim (lim : Nat) (v : Value) : Bool := match v with
  | .ref n => Nat.blt n lim || Nat.ble 2000 n
  | _ => true
def bAll (lim : Nat) (cs : List bC) : Bool := cs.all fun c => c.2.2.all (bLim lim)
def bLs (lim : Nat) (ls : aLs) : Bool := ls.all fun x => match x with
  | some v => bLim lim v
  | none => true
def bAg (lim : Nat) (ad ad' : Nat → Nat) : Prop := ∀ n, n < lim ∨ 2000 ≤ n → ad' n = ad n
theorem bAg.le {lim lim' : Nat} {ad ad' : Nat → Nat} (h : bAg lim' ad ad') (hl : lim ≤ lim') : bAg lim ad ad' := fun n hn => h n (hn.imp (fun z => Nat.lt_of_lt_of_le z hl) id)
theorem bAg.trans {lim : Nat} {ad ad' ad2 : Nat → Nat} (h : bAg lim ad ad') (h2 : bAg lim ad' ad2) : bAg lim ad ad2 := fun n hn => (h2 n hn).trans (h n hn)
theorem bLim_ag {lim : Nat} {ad ad' : Nat → Nat} {v : Value} (h : bAg lim ad ad') (hv : bLim lim v = true) : atv ad' v = atv ad v := by
  cases v with
  | ref n =>
    show Value.ref (ad' n) = .ref (ad n)
    rw [h n]
    rcases (Bool.or_eq_true _ _).mp hv with z | z
    · exact Or.inl (Nat.le_of_ble_eq_true z)
    · exact Or.inr (Nat.le_of_ble_eq_true z)
  | _ => rfl
theorem bOp_ag {lim : Nat} {ad ad' : Nat → Nat} {v : Value} (h : bAg lim ad ad') (hv : bLim lim v = true) : bOp ad' v = bOp ad v := by
  have := bLim_ag h hv
  cases v with
  | ref n =>
    have h1 : ad' n = ad n := by
      have h2 : Value.ref (ad' n) = .ref (ad n) := this
      injection h2
    show some (ad' n) = some (ad n)
    rw [h1]
  | _ => rfl
theorem bMap_ag {lim : Nat} {ad ad' : Nat → Nat} {st : List Value} (h : bAg lim ad ad') (hv : st.all (bLim lim) = true) : st.map (atv ad') = st.map (atv ad) := List.map_congr_left fun v hm => bLim_ag h (List.all_eq_true.mp hv v hm)
theorem bE_ag {lim : Nat} {ad ad' : Nat → Nat} {cy : Nat → ClassId} {c : bC} (h : bAg lim ad ad') (hv : c.2.2.all (bLim lim) = true) : bE ad' cy c = bE ad cy c := by
  have h1 := bMap_ag h hv
  have h2 : bRw ad' c = bRw ad c := by
    have h3 : (fun k => bOp ad' (c.2.2.getD k .null)) = fun k => bOp ad (c.2.2.getD k .null) := by
      funext k
      rw [List.getD_eq_getElem?_getD]
      cases hk : c.2.2[k]? with
      | none => rfl
      | some v => exact bOp_ag h (List.all_eq_true.mp hv v (List.mem_of_getElem? hk))
    unfold bRw
    rw [h3]
  unfold bE
  rw [h1, h2]
theorem bW_ag {lim o : Nat} {ad ad' : Nat → Nat} {cy : Nat → ClassId} {cs : List bC} (h : bAg lim ad ad') (hl : o + cs.length ≤ lim) (hv : bAll lim cs = true) : bW ad' cy o cs = bW ad cy o cs := by
  unfold bW
  refine List.map_congr_left fun q hq => ?_
  obtain ⟨c, i⟩ := q
  have hq' := List.mem_zipIdx hq
  have hm : c ∈ cs := by rw [hq'.2.2]; exact List.getElem_mem _
  show (ad' i, bE ad' cy c) = (ad i, bE ad cy c)
  rw [h i (Or.inl (by omega)), bE_ag h (List.all_eq_true.mp hv c hm)]
theorem apr_ag {lim : Nat} {ad ad' : Nat → Nat} (h : bAg lim ad ad') : ∀ (ls : aLs) (b : Nat), bLs lim ls = true → apr ad' b ls = apr ad b ls := by
  intro ls
  induction ls with
  | nil => intro b _; rfl
  | cons x t ih =>
    intro b hv
    obtain ⟨h1, h2⟩ := (Bool.and_eq_true _ _).mp hv
    cases x with
    | none => exact ih (b + 1) h2
    | some v =>
      show (b, atv ad' v) :: apr ad' (b + 1) t = (b, atv ad v) :: apr ad (b + 1) t
      rw [bLim_ag h h1, ih (b + 1) h2]
theorem aHas_ag {lim nL : Nat} {ad ad' : Nat → Nat} {B : Array Slot} {ls : aLs} (h : bAg lim ad ad') (hv : bLs lim ls = true) (hl : aHas ad B nL ls) : aHas ad' B nL ls := by
  refine ⟨hl.1, ?_⟩
  rw [apr_ag h ls 0 hv]
  exact hl.2
abbrev bS : Type := aLs × List Value × List bC × Nat × Nat
/-- a constructor: its name, its code, its locals, how many parameters, cells, slots, the place where it stops -/
abbrev bMI : Type := MethodName × ByteArray × Nat × Nat × Nat × Nat × Nat
theorem aL2_0 : aLok (0, 16, 0, 0) := ⟨_, rfl, by decide, aW_t 120 (by decide +kernel) (by decide +kernel)⟩
theorem aL2_1 : aLok (6, 28, 6, 7) := ⟨_, rfl, by decide, aW_t 162 (by decide +kernel) (by decide +kernel)⟩
def bLT : List aQ := (0, 16, 0, 0) :: (6, 28, 6, 7) :: aLT
theorem bLT_ok : ∀ q ∈ bLT, aLok q := List.forall_mem_cons.mpr ⟨aL2_0, List.forall_mem_cons.mpr ⟨aL2_1, aLT_ok⟩⟩
def bLk (on i : Nat) : Option aQ := bLT.find? fun q => Nat.beq q.1 on && Nat.beq q.2.1 i
def bDf (t : Nat) : Value := match t with
  | 0 => .int 0
  | 1 => .int 0
  | 2 => .long 0
  | _ => .null
def bFit (t : Nat) (v : Value) : Bool := match t, v with
  | 0, .int _ => true
  | 1, .int x => decide (x = 0 ∨ x = 1)
  | 2, .long _ => true
  | 3, .ref _ => true
  | 4, .ref _ => true
  | _, _ => false
def bAK (t : ArrayType) : Nat := match t with
  | .int => 0
  | .long => 1
  | .byte => 2
  | .boolean => 3
  | _ => 9
/-- a row of references of a class's: its kind -/
def bRK (a : Nat) : Nat := cond (Nat.beq a 4) 4 (cond (Nat.beq a 8) 5 9)
def bgo (pc : Nat) (off : Int) (S : bS) : Option (Nat × bS) := cond (decide (0 ≤ (pc : Int) + off)) (some (((pc : Int) + off).toNat, S)) none
def b1 (o kb mc ms on : Nat) (nl : List aQ) (ins : ClassFile.Instr) (len pc : Nat) (S : bS) : Option (Nat × bS) := match S with
  | (ls, st, cs, nc, ns) => match ins with
    | .aload_n k => (match ls[k]? with
      | some (some (.ref x)) => cond (Nat.beq len 1) (some (pc + 1, ls, .ref x :: st, cs, nc, ns)) none
      | _ => none)
    | .iload_n k => (match ls[k]? with
      | some (some (.int x)) => cond (Nat.beq len 1) (some (pc + 1, ls, .int x :: st, cs, nc, ns)) none
      | _ => none)
    | .istore_n k => (match st with
      | .int x :: r => cond (Nat.beq len 1 && Nat.blt k ls.length) (some (pc + 1, ast1 ls k (.int x), r, cs, nc, ns)) none
      | _ => none)
    | .astore_n k => (match st with
      | .ref x :: r => cond (Nat.beq len 1 && Nat.blt k ls.length) (some (pc + 1, ast1 ls k (.ref x), r, cs, nc, ns)) none
      | _ => none)
    | .iconst n => cond (Nat.beq len 1) (some (pc + 1, ls, .int (Int32.ofInt n) :: st, cs, nc, ns)) none
    | .bipush n => cond (Nat.beq len 2) (some (pc + 2, ls, .int (Int8.ofInt n).toInt32 :: st, cs, nc, ns)) none
    | .sipush n => cond (Nat.beq len 3) (some (pc + 3, ls, .int (Int16.ofInt n).toInt32 :: st, cs, nc, ns)) none
    | .dup => (match st with
      | .ref x :: r => cond (Nat.beq len 1) (some (pc + 1, ls, .ref x :: .ref x :: r, cs, nc, ns)) none
      | _ => none)
    | .iinc k n => (match ls[k]? with
      | some (some (.int x)) => cond (Nat.beq len 3 && Nat.blt k ls.length) (some (pc + 3, ast1 ls k (.int (x + Int32.ofInt n)), st, cs, nc, ns)) none
      | _ => none)
    | .goto off => cond (Nat.beq len 3) (bgo pc off S) none
    | .if_icmp .ge off => (match st with
      | .int y :: .int x :: r => cond (Nat.beq len 3 && decide (0 ≤ (pc : Int) + off)) (cond (decide (y ≤ x)) (bgo pc off (ls, r, cs, nc, ns)) (some (pc + 3, ls, r, cs, nc, ns))) none
      | _ => none)
    | .new i => (match nl.find? fun q => Nat.beq q.1 on && Nat.beq q.2.1 i with
      | some q => cond (Nat.beq len 3 && (Nat.blt (o + cs.length) 2000 && (bLs (o + cs.length) ls && (st.all (bLim (o + cs.length)) && (bAll (o + cs.length) cs && (Nat.ble (nc + 1) mc && Nat.ble (ns + (aft q.2.2.1).length) ms))))))
          (some (pc + 3, ls, .ref (o + cs.length) :: st, cs ++ [(q.2.2.1, 0, (aft q.2.2.1).map bDf)], nc + 1, ns + (aft q.2.2.1).length)) none
      | none => none)
    | .newarray t => (match st with
      | .int n :: r => cond (Nat.beq len 2 && (Nat.blt (o + cs.length) 2000 && (bLs (o + cs.length) ls && (r.all (bLim (o + cs.length)) && (bAll (o + cs.length) cs && (Nat.ble (nc + 1) mc && (Nat.ble (ns + n.toNatClampNeg) ms && (decide (0 ≤ n) && (Nat.ble n.toNatClampNeg 2000 && Nat.ble (bAK t) 3)))))))))
          (some (pc + 2, ls, .ref (o + cs.length) :: r, cs ++ [(kb + bAK t, n.toNatClampNeg, [])], nc + 1, ns + n.toNatClampNeg)) none
      | _ => none)
    | .anewarray i => (match nl.find? fun q => Nat.beq q.1 on && Nat.beq q.2.1 i with
      | some q => (match st with
        | .int n :: r => cond (Nat.beq len 3 && (Nat.blt (o + cs.length) 2000 && (bLs (o + cs.length) ls && (r.all (bLim (o + cs.length)) && (bAll (o + cs.length) cs && (Nat.ble (nc + 1) mc && (Nat.ble (ns + n.toNatClampNeg) ms && (decide (0 ≤ n) && (Nat.ble n.toNatClampNeg 2000 && Nat.ble (bRK q.2.2.1) 5)))))))))
            (some (pc + 3, ls, .ref (o + cs.length) :: r, cs ++ [(kb + bRK q.2.2.1, n.toNatClampNeg, List.replicate n.toNatClampNeg .null)], nc + 1, ns + n.toNatClampNeg)) none
        | _ => none)
      | none => none)
    | .putfield i => (match bLk on i with
      | some q => (match st with
        | v :: .ref x :: r => (match cs[x - o]? with
          | some (k, z, fs) => cond (Nat.beq len 3 && (Nat.ble o x && (Nat.beq k q.2.2.1 && (Nat.beq q.2.2.1 on && (Nat.blt q.2.2.2 fs.length && bFit ((aft q.2.2.1).getD q.2.2.2 9) v))))) (some (pc + 3, ls, r, cs.set (x - o) (k, z, fs.set q.2.2.2 v), nc, ns)) none
          | none => none)
        | _ => none)
      | none => none)
    | .getfield i => (match bLk on i with
      | some q => (match st with
        | .ref x :: r => (match cs[x - o]? with
          | some (k, _, fs) => (match fs[q.2.2.2]? with
            | some v => cond (Nat.beq len 3 && (Nat.ble o x && Nat.beq k q.2.2.1)) (some (pc + 3, ls, v :: r, cs, nc, ns)) none
            | none => none)
          | none => none)
        | _ => none)
      | none => none)
    | .getstatic i => cond (Nat.beq len 3 && (Nat.beq on 9 && Nat.beq i 15)) (some (pc + 3, ls, .ref 2000 :: st, cs, nc, ns)) none
    | .aastore => (match st with
      | .ref v :: .int n :: .ref x :: r => (match cs[x - o]? with
        | some (k, z, fs) => (match cs[v - o]? with
          | some (kv, _, _) => cond (Nat.beq len 1 && (Nat.ble o x && (Nat.ble o v && (Nat.beq k (kb + bRK kv) && (Nat.ble (bRK kv) 5 && (decide (0 ≤ n) && (Nat.blt n.toNatClampNeg z && Nat.beq fs.length z))))))) (some (pc + 1, ls, r, cs.set (x - o) (k, z, fs.set n.toNatClampNeg (.ref v)), nc, ns)) none
          | none => none)
        | none => none)
      | _ => none)
    | _ => none
/-- the machine of the constructors: up to the place where the method stops -/
def bst (o kb : Nat) (nl cl : List aQ) (BM : Nat → bMI) : Nat → Nat → Nat → Nat → bS → Option bS
  | 0, _, _, _, _ => none
  | f + 1, d, j, pc, S => cond (Nat.beq pc (BM j).2.2.2.2.2.2) (some S) (match decode (BM j).2.1 pc with
    | .ok (.invokespecial i, len) => (match cl.find? fun q => Nat.beq q.1 j && Nat.beq q.2.1 i with
      | some q => cond (Nat.beq q.2.2.2 1)
          (match S with
            | (ls, .ref _ :: r, cs, nc, ns) => cond (Nat.beq len 3 && Nat.ble (acs r) 8) (bst o kb nl cl BM f d j (pc + 3) (ls, r, cs, nc, ns)) none
            | _ => none)
          (match d with
            | 0 => none
            | d + 1 => (match S with
              | (ls, st, cs, nc, ns) => (match st.drop (BM q.2.2.1).2.2.2.1 with
                | .ref x :: r => (match bst o kb nl cl BM f d q.2.2.1 0 (alc (.ref x :: (st.take (BM q.2.2.1).2.2.2.1).reverse) (BM q.2.2.1).2.2.1, [], cs, 0, 0) with
                  | some (_, [], cs', nc', ns') => cond (Nat.beq len 3 && (Nat.ble nc' (BM q.2.2.1).2.2.2.2.1 && (Nat.ble ns' (BM q.2.2.1).2.2.2.2.2.1 && (Nat.ble (acs r) 8 && (bLs (o + cs.length) ls && (r.all (bLim (o + cs.length)) && (Nat.ble (BM q.2.2.1).2.2.2.1 st.length && (Nat.blt q.2.2.1 12 && (Nat.ble (alE (.ref x :: (st.take (BM q.2.2.1).2.2.2.1).reverse)).length (BM q.2.2.1).2.2.1 && (Nat.ble (nc + (BM q.2.2.1).2.2.2.2.1) (BM j).2.2.2.2.1 && (Nat.ble (ns + (BM q.2.2.1).2.2.2.2.2.1) (BM j).2.2.2.2.2.1 && Nat.ble cs.length cs'.length)))))))))))
                      (bst o kb nl cl BM f (d + 1) j (pc + 3) (ls, r, cs', nc + (BM q.2.2.1).2.2.2.2.1, ns + (BM q.2.2.1).2.2.2.2.2.1)) none
                  | _ => none)
                | _ => none)))
      | none => none)
    | .ok (ins, len) => (match b1 o kb (BM j).2.2.2.2.1 (BM j).2.2.2.2.2.1 j nl ins len pc S with
      | some (pc', S') => bst o kb nl cl BM f d j pc' S'
      | none => none)
    | .error _ => none)
end
section
/-! the machine of the constructors: a step is the true one's -/
def bCx (p : Program) (s : State) (m : MethodId) (args : Array Value) (meth : Method) (c : Code) (cc : ByteArray) (nL on : Nat) (cy : Nat → ClassId) (D : va_G) (A : Nat → Prop) (e0 : Nat) : Prop :=
  p.tables.exec = Jvm.exec ∧ c.code = cc ∧ c.maxLocals = nL ∧ s.vm.findClass (aCN on) = some m.cls ∧ (∀ w ∈ aWS, w.before args s = true) ∧ va_K D vwCl (atys cy) s ∧ (∀ q, s.heap.size ≤ q → A q) ∧ va_AO RX5 s ∧ va_AO RX10 s ∧ va_Z RX9 "END" "LFoldedRealm$Sort;" (.ref e0) A s s.heap ∧ meth.name = "<init>" ∧ ∀ w ∈ aNW, va_Nw w s
def bG (p : Program) (l : Launch) (e : Env) (R : Room) (s : State) (m : MethodId) (args : Array Value) (below : List Frame) (meth : Method) (c : Code) (nL : Nat) (cy : Nat → ClassId) (D : va_G) (A : Nat → Prop) (Qs : State → Prop) (o pc : Nat) (S : bS) (ad : Nat → Nat) : Prop :=
  ∀ (B : Array Slot) (H : Heap) (locs : List Loc), aHas ad B nL S.1 → va_P D vwCl (bW ad cy o S.2.2.1) H → va_D A (bW ad cy o S.2.2.1) → va_S A s.heap H locs → W p l e R s m args below meth c H locs S.2.2.2.1 S.2.2.2.2 Qs (F0 m pc B (S.2.1.map (atv ad)))
def bNok (q : aQ) : Prop := ∃ r : vw_C, vwCl[q.2.2.1]? = some r ∧ Cond.classLink (aCN q.1) q.2.1 r.1 ∈ aWS
theorem cond_some {α : Type} {b : Bool} {x y : α} (h : cond b (some x) none = some y) : b = true ∧ x = y := by
  cases b with
  | true => exact ⟨rfl, Option.some.inj h⟩
  | false => cases h
theorem cond_some2 {α : Type} {b : Bool} {x : Option α} {y : α} (h : cond b x none = some y) : b = true ∧ x = some y := by
  cases b with
  | true => exact ⟨rfl, h⟩
  | false => cases h
theorem bDf_ok {t : Nat} {ty : FieldType} (h : atk t ty = true) : defaultValue ty = bDf t := by
  unfold atk at h
  split at h <;> first | rfl | cases h
theorem bDf_atv {ad : Nat → Nat} (t : Nat) : atv ad (bDf t) = bDf t := by
  unfold bDf
  split <;> rfl
theorem bFit_ok {t : Nat} {ty : FieldType} {v : Value} {ad : Nat → Nat} (h : bFit t v = true) (hk : atk t ty = true) : narrow ty (atv ad v) = atv ad v ∧ fits ty (atv ad v) = true := by
  unfold bFit at h
  split at h
  · cases ty <;> first | exact ⟨rfl, rfl⟩ | cases hk
  · cases ty <;> first | (rcases of_decide_eq_true h with z | z <;> subst z <;> exact ⟨rfl, rfl⟩) | cases hk
  · cases ty <;> first | exact ⟨rfl, rfl⟩ | cases hk
  · cases ty <;> first | exact ⟨rfl, rfl⟩ | cases hk
  · cases ty <;> first | exact ⟨rfl, rfl⟩ | cases hk
  · cases h
theorem bOwn : ∀ ci, ci < 12 → ∀ r, vwCl[ci]? = some r → ∀ k, k < r.2.2 → (r.2.1 k).1 = aCN ci := by
  intro ci hci r h
  match ci, h with
  | 0, h => cases h; decide +kernel
  | 1, h => cases h; decide +kernel
  | 2, h => cases h; decide +kernel
  | 3, h => cases h; decide +kernel
  | 4, h => cases h; decide +kernel
  | 5, h => cases h; decide +kernel
  | 6, h => cases h; decide +kernel
  | 7, h => cases h; decide +kernel
  | 8, h => cases h; decide +kernel
  | 9, h => cases h; decide +kernel
  | 10, h => cases h; decide +kernel
  | 11, h => cases h; decide +kernel
  | n + 12, h => cases h
theorem bE_obj {ad : Nat → Nat} {cy : Nat → ClassId} {k z : Nat} {fs : List Value} (h : Nat.blt k 20 = true) : bE ad cy (k, z, fs) = .inr (k, fs.map (atv ad)) := by
  unfold bE
  dsimp only
  rw [h]
  rfl
theorem bE_arr {ad : Nat → Nat} {cy : Nat → ClassId} {k z : Nat} {fs : List Value} (h : Nat.blt k 20 = false) : bE ad cy (k, z, fs) = .inl (cy (k % 10), z, bRw ad (k, z, fs)) := by
  unfold bE
  dsimp only
  rw [h]
  rfl
theorem bKb {kb a : Nat} (h : kb = 20 ∨ kb = 30) (ha : a ≤ 5) : Nat.blt (kb + a) 20 = false ∧ (kb + a) % 10 = a := by
  constructor
  · apply Bool.eq_false_iff.mpr
    intro z
    have := Nat.le_of_ble_eq_true z
    omega
  · omega
/-- the class of a row of such a type is one -/
theorem bRA {U : State} {cA cB : ClassId} {ty : FieldType} (h1 : va_RA U cA ty) (h2 : va_RA U cB ty) : cA = cB := by
  cases ty with
  | object C =>
    obtain ⟨-, -, -, -, -, a4⟩ := h1
    obtain ⟨-, -, -, -, -, b4⟩ := h2
    exact Option.some.inj (a4.symm.trans b4)
  | _ => exact Option.some.inj (Eq.trans (Eq.symm h1) h2)
section
variable {p : Program} {l : Launch} {e : Env} {R : Room} {s : State} {m : MethodId} {args : Array Value} {below : List Frame} {meth : Method} {c : Code} {cc : ByteArray} {nL on : Nat} {ad : Nat → Nat} {cy : Nat → ClassId} {D : va_G} {A : Nat → Prop} {Qs : State → Prop} {o kb e0 : Nat} {nl : List aQ}
/-- a cell comes to be -/
theorem bG_push {S : bS} {ls : aLs} {r : List Value} {cs : List bC} {nc ns pc' N : Nat} {c1 : bC} (hlim : o + cs.length < 2000) (hls : bLs (o + cs.length) ls = true) (hr : r.all (bLim (o + cs.length)) = true) (hcs : bAll (o + cs.length) cs = true)
    (hgo : ∀ ad', bAg (o + cs.length) ad ad' → bG p l e R s m args below meth c nL cy D A Qs o pc' (ls, .ref (o + cs.length) :: r, cs ++ [c1], nc + 1, ns + N) ad')
    {B : Array Slot} {H1 : Heap} {locs : List Loc} {q : Nat} {E : va_E} (hl : aHas ad B nL ls) (hE : ∀ ad', bAg (o + cs.length) ad ad' → bE ad' cy c1 = E) (hP : va_P D vwCl (bW ad cy o cs ++ [(q, E)]) H1) (hD : va_D A (bW ad cy o cs ++ [(q, E)])) (hS : va_S A s.heap H1 locs) :
    W p l e R s m args below meth c H1 locs (nc + 1) (ns + N) Qs (F0 m pc' B (.ref q :: r.map (atv ad))) := by
  have hag : bAg (o + cs.length) ad (fun n => if n = o + cs.length then q else ad n) := by
    intro n hn
    have : n ≠ o + cs.length := by omega
    show (if n = o + cs.length then q else ad n) = ad n
    rw [if_neg this]
  have h := hgo _ hag B H1 locs
  have hw : bW (fun n => if n = o + cs.length then q else ad n) cy o (cs ++ [c1]) = bW ad cy o cs ++ [(q, E)] := by
    rw [bW_push, bW_ag hag (Nat.le_refl _) hcs, hE _ hag, if_pos rfl]
  have hst : (Value.ref (o + cs.length) :: r).map (atv (fun n => if n = o + cs.length then q else ad n)) = .ref q :: r.map (atv ad) := by
    rw [List.map_cons, bMap_ag hag hr]
    show Value.ref (if o + cs.length = o + cs.length then q else ad (o + cs.length)) :: _ = _
    rw [if_pos rfl]
  dsimp only at h
  rw [hw, hst] at h
  exact h (aHas_ag hag hls hl) hP hD hS
theorem bAg.rf {lim : Nat} {ad : Nat → Nat} : bAg lim ad ad := fun _ _ => rfl
def bTy (a : Nat) : FieldType := match a with
  | 0 => .int
  | 1 => .long
  | 2 => .byte
  | 3 => .boolean
  | 4 => .object RX5
  | _ => .object RX10
theorem bTy_in {a : Nat} (h : a ≤ 5) : (atys cy)[a]? = some (cy a, bTy a) := by
  match a, h with
  | 0, _ => rfl
  | 1, _ => rfl
  | 2, _ => rfl
  | 3, _ => rfl
  | 4, _ => rfl
  | 5, _ => rfl
  | n + 6, h => exact absurd h (by omega)
theorem bCy {a : Nat} (h : a ≤ 5) {cA : ClassId} (hK : va_K D vwCl (atys cy) s) (hK' : va_K D vwCl (atys cy ++ [(cA, bTy a)]) s) : cA = cy a := by
  have h1 := (hK'.2 6 (cA, bTy a) rfl).2
  have h2 := (hK.2 a _ (bTy_in (cy := cy) h)).2
  exact bRA h1 h2
end
end
section
/-! the machine of the constructors: its steps -/
theorem aI_in : Cond.arrayClass .int ∈ aWS := aW_t 92 (by decide +kernel) (by decide +kernel)
theorem aJ_in : Cond.arrayClass .long ∈ aWS := aW_t 141 (by decide +kernel) (by decide +kernel)
theorem aB_in : Cond.arrayClass .byte ∈ aWS := aW_t 75 (by decide +kernel) (by decide +kernel)
theorem aZ_in : Cond.arrayClass .boolean ∈ aWS := aW_t 1446 (by decide +kernel) (by decide +kernel)
theorem bEnd : Cond.fieldLink (aCN 9) 15 RX9 "END" "LFoldedRealm$Sort;" ∈ aWS := aW_t 41 (by decide +kernel) (by decide +kernel)
def bIok (ci : Nat) : Prop := ∀ r : vw_C, vwCl[ci]? = some r → Cond.instantiable r.1 r.2.2 ∈ aWS ∧ Cond.initialized r.1 ∈ aWS
section
variable {p : Program} {l : Launch} {e : Env} {R : Room} {s : State} {m : MethodId} {args : Array Value} {below : List Frame} {meth : Method} {c : Code} {cc : ByteArray} {nL on : Nat} {ad : Nat → Nat} {cy : Nat → ClassId} {D : va_G} {A : Nat → Prop} {Qs : State → Prop} {o kb e0 : Nat} {nl : List aQ}
theorem b1_put (X : bCx p s m args meth c cc nL on cy D A e0) {q : aQ} (hq : aLok q) (h1 : q.1 = on) {i pc x k z : Nat} (h2 : q.2.1 = i) {v : Value} {r : List Value} {cs : List bC} {fs : List Value} {nc ns : Nat} (hd : decode cc pc = .ok (.putfield i, 3)) (ho : o ≤ x) (hc : cs[x - o]? = some (k, z, fs)) (hk : k = q.2.2.1) (hon : q.2.2.1 = on) (hf : q.2.2.2 < fs.length) (hfit : bFit ((aft q.2.2.1).getD q.2.2.2 9) v = true)
    {B : Array Slot} {H : Heap} {locs : List Loc} (hP : va_P D vwCl (bW ad cy o cs) H) (hD : va_D A (bW ad cy o cs)) (hS : va_S A s.heap H locs)
    (kk : ∀ (H1 : Heap) (locs1 : List Loc), va_P D vwCl (bW ad cy o (cs.set (x - o) (k, z, fs.set q.2.2.2 v))) H1 → va_D A (bW ad cy o (cs.set (x - o) (k, z, fs.set q.2.2.2 v))) → va_S A s.heap H1 locs1 → W p l e R s m args below meth c H1 locs1 nc ns Qs (F0 m (pc + 3) B (r.map (atv ad)))) :
    W p l e R s m args below meth c H locs nc ns Qs (F0 m pc B (atv ad v :: .ref (ad x) :: r.map (atv ad))) := by
  obtain ⟨hexec, hb, hml, hown, hts, hK, hA, hAO1, hAO2, hZ, hin, hNW⟩ := X
  obtain ⟨⟨C, T, N⟩, h3, h4, h5⟩ := hq
  have h3' : q.2.2.1 < 12 := (List.getElem?_eq_some_iff.mp h3).1
  have h20 : Nat.blt k 20 = true := Nat.ble_eq_true_of_le (by omega)
  obtain ⟨h7, ty0, h8, h9, h10, h11⟩ := aCk_ok _ _ h3
  obtain ⟨f1, f2⟩ := bFit_ok (ad := ad) hfit (h11 _ h4)
  have hg := bW_get (ad := ad) (cy := cy) (o := o) hc
  rw [bE_obj h20, show o + (x - o) = x from by omega, hk] at hg
  have hset := bW_set (ad := ad) (cy := cy) (o := o) (c := (k, z, fs.set q.2.2.2 v)) ((List.getElem?_eq_some_iff.mp hc).1)
  rw [bE_obj h20, show o + (x - o) = x from by omega, List.map_set] at hset
  have hlen : q.2.2.2 < (fs.map (atv ad)).length := by rw [List.length_map]; exact hf
  rw [h1, h2] at h5
  cases hfin : (T q.2.2.2).2.2.2 with
  | false =>
    refine va_put (D := D) hexec hb hts h7 ty0 h8 h9 hown hK hP hD hS (x - o) hg h3 q.2.2.2 h4 (hts _ h5) (fun _ h => h) hfin (h8 _ h4) f1 f2 hlen hd (fun H1 locs1 q1 q2 q3 => ?_)
    rw [← hk, hset] at q1 q2
    exact kk H1 locs1 q1 q2 q3
  | true =>
    refine va_putF (D := D) hexec hb hts h7 ty0 h8 h9 hown hK hP hD hS (x - o) hg h3 q.2.2.2 h4 (hts _ h5) (fun _ h => h) hfin hin (by rw [← hon]; exact bOwn _ h3' _ h3 _ h4) (h8 _ h4) f1 f2 hlen hd (fun H1 locs1 q1 q2 q3 => ?_)
    rw [← hk, hset] at q1 q2
    exact kk H1 locs1 q1 q2 q3
theorem b1_new (X : bCx p s m args meth c cc nL on cy D A e0) {q : aQ} (hq : bNok q) (hI : bIok q.2.2.1) (h1 : q.1 = on) {i pc : Nat} (h2 : q.2.1 = i) {ls : aLs} {st : List Value} {cs : List bC} {nc ns : Nat} (hd : decode cc pc = .ok (.new i, 3)) (hlim : o + cs.length < 2000) (hls : bLs (o + cs.length) ls = true) (hr : st.all (bLim (o + cs.length)) = true) (hcs : bAll (o + cs.length) cs = true) (hnc : nc + 1 ≤ R.cells) (hns : ns + (aft q.2.2.1).length ≤ R.slots)
    (hgo : ∀ ad', bAg (o + cs.length) ad ad' → bG p l e R s m args below meth c nL cy D A Qs o (pc + 3) (ls, .ref (o + cs.length) :: st, cs ++ [(q.2.2.1, 0, (aft q.2.2.1).map bDf)], nc + 1, ns + (aft q.2.2.1).length) ad') : bG p l e R s m args below meth c nL cy D A Qs o pc (ls, st, cs, nc, ns) ad := by
  obtain ⟨hexec, hb, hml, hown, hts, hK, hA, hAO1, hAO2, hZ, hin, hNW⟩ := X
  obtain ⟨⟨C, T, N⟩, h3, h5⟩ := hq
  obtain ⟨i1, i2⟩ := hI _ h3
  have h3' : q.2.2.1 < 12 := (List.getElem?_eq_some_iff.mp h3).1
  have h20 : Nat.blt q.2.2.1 20 = true := Nat.ble_eq_true_of_le (by omega)
  obtain ⟨h7, ty0, h8, h9, h10, h11⟩ := aCk_ok _ _ h3
  have h10 : (aft q.2.2.1).length = N := h10
  intro B H locs hl hP hD hS
  dsimp only at hl hP hD ⊢
  rw [h1, h2] at h5
  have hns' : ns + N ≤ R.slots := by rw [← h10]; exact hns
  refine va_new (D := D) (fs := (aft q.2.2.1).map bDf) hexec hb hts h7 ty0 h8 hown (hts _ h5) (hts _ i1) (hts _ i2) hK hP hD hS hA h3 ?_ hnc hns' hd (fun q1 H1 z1 z2 z3 => ?_)
  · intro j hj
    rw [bDf_ok (h11 j hj)]
    unfold vp_V
    rw [List.getD_eq_getElem?_getD, List.getD_eq_getElem?_getD, List.getElem?_map]
    have hj' : j < (aft q.2.2.1).length := by rw [h10]; exact hj
    rw [List.getElem?_eq_getElem hj']
    rfl
  · rw [← h10]
    refine bG_push (S := (ls, st, cs, nc, ns)) hlim hls hr hcs hgo hl (fun ad' _ => ?_) z1 z2 z3
    rw [bE_obj h20, List.map_map]
    congr 2
    exact List.map_congr_left fun t _ => bDf_atv t
theorem b1_newa (X : bCx p s m args meth c cc nL on cy D A e0) (hkb : kb = 20 ∨ kb = 30) {t : ArrayType} (ht : bAK t ≤ 3) {n : Int32} {pc : Nat} {ls : aLs} {r : List Value} {cs : List bC} {nc ns : Nat} (hd : decode cc pc = .ok (.newarray t, 2)) (hlim : o + cs.length < 2000) (hls : bLs (o + cs.length) ls = true) (hr : r.all (bLim (o + cs.length)) = true) (hcs : bAll (o + cs.length) cs = true) (hnc : nc + 1 ≤ R.cells) (hns : ns + n.toNatClampNeg ≤ R.slots) (hn : 0 ≤ n) (hm : n.toNatClampNeg ≤ 2000)
    (hgo : ∀ ad', bAg (o + cs.length) ad ad' → bG p l e R s m args below meth c nL cy D A Qs o (pc + 2) (ls, .ref (o + cs.length) :: r, cs ++ [(kb + bAK t, n.toNatClampNeg, [])], nc + 1, ns + n.toNatClampNeg) ad') : bG p l e R s m args below meth c nL cy D A Qs o pc (ls, .int n :: r, cs, nc, ns) ad := by
  obtain ⟨hexec, hb, hml, hown, hts, hK, hA, hAO1, hAO2, hZ, hin, hNW⟩ := X
  obtain ⟨k1, k2⟩ := bKb hkb (show bAK t ≤ 5 by omega)
  have harr : Cond.arrayClass (newarray.typeOf t) ∈ aWS := by
    cases t <;> first | exact aI_in | exact aJ_in | exact aB_in | exact aZ_in | exact absurd ht (by decide)
  have hty : newarray.typeOf t = bTy (bAK t) := by
    cases t <;> first | rfl | exact absurd ht (by decide)
  have hcell : ∀ cA : ClassId, vp_cell cA (n.toNatClampNeg, bRw ad (kb + bAK t, n.toNatClampNeg, [])) = arrV cA n.toNatClampNeg (fun _ => defaultValue (bTy (bAK t))) := by
    intro cA
    unfold bRw
    dsimp only
    rw [k2]
    cases t <;> first | rfl | exact absurd ht (by decide)
  have hby : n.toNatClampNeg * componentBytes (bTy (bAK t)) ≤ 536870912 := by
    have : componentBytes (bTy (bAK t)) ≤ 8 := by
      cases t <;> first | decide | exact absurd ht (by decide)
    calc n.toNatClampNeg * componentBytes (bTy (bAK t)) ≤ 2000 * 8 := Nat.mul_le_mul hm this
      _ ≤ 536870912 := by decide
  intro B H locs hl hP hD hS
  dsimp only at hl hP hD ⊢
  refine va_newa (D := D) hexec hb (hts _ harr) hty hK hP hD hS hA hcell (Int32.not_lt.mpr hn) rfl hby hnc hns hd (fun q1 cA H1 z0 z1 z2 z3 => ?_)
  have hcA := bCy (show bAK t ≤ 5 by omega) hK z0
  subst hcA
  refine bG_push (S := (ls, .int n :: r, cs, nc, ns)) hlim hls hr hcs hgo hl (fun ad' _ => ?_) z1 z2 z3
  rw [bE_arr k1, k2]
  congr 3
theorem b1_newq (X : bCx p s m args meth c cc nL on cy D A e0) (hkb : kb = 20 ∨ kb = 30) {q : aQ} (hq : bNok q) (h1 : q.1 = on) {i pc : Nat} (h2 : q.2.1 = i) {n : Int32} {ls : aLs} {r : List Value} {cs : List bC} {nc ns : Nat} (ht : bRK q.2.2.1 ≤ 5) (hd : decode cc pc = .ok (.anewarray i, 3)) (hlim : o + cs.length < 2000) (hls : bLs (o + cs.length) ls = true) (hr : r.all (bLim (o + cs.length)) = true) (hcs : bAll (o + cs.length) cs = true) (hnc : nc + 1 ≤ R.cells) (hns : ns + n.toNatClampNeg ≤ R.slots) (hn : 0 ≤ n) (hm : n.toNatClampNeg ≤ 2000)
    (hgo : ∀ ad', bAg (o + cs.length) ad ad' → bG p l e R s m args below meth c nL cy D A Qs o (pc + 3) (ls, .ref (o + cs.length) :: r, cs ++ [(kb + bRK q.2.2.1, n.toNatClampNeg, List.replicate n.toNatClampNeg .null)], nc + 1, ns + n.toNatClampNeg) ad') : bG p l e R s m args below meth c nL cy D A Qs o pc (ls, .int n :: r, cs, nc, ns) ad := by
  obtain ⟨hexec, hb, hml, hown, hts, hK, hA, hAO1, hAO2, hZ, hin, hNW⟩ := X
  obtain ⟨⟨C, T, N⟩, h3, h5⟩ := hq
  rw [h1, h2] at h5
  have hC : va_AO C s ∧ FieldType.object C = bTy (bRK q.2.2.1) ∧ (bRK q.2.2.1 = 4 ∨ bRK q.2.2.1 = 5) := by
    unfold bRK at ht ⊢
    cases h4 : Nat.beq q.2.2.1 4 with
    | true =>
      rw [Nat.eq_of_beq_eq_true h4] at h3
      cases h3
      exact ⟨hAO1, rfl, Or.inl rfl⟩
    | false =>
      rw [h4] at ht
      cases h8 : Nat.beq q.2.2.1 8 with
      | true =>
        rw [Nat.eq_of_beq_eq_true h8] at h3
        cases h3
        exact ⟨hAO2, rfl, Or.inr rfl⟩
      | false => rw [h8] at ht; exact absurd ht (by decide)
  obtain ⟨c1, c2, c3⟩ := hC
  obtain ⟨k1, k2⟩ := bKb hkb ht
  intro B H locs hl hP hD hS
  dsimp only at hl hP hD ⊢
  have hby : n.toNatClampNeg * 4 ≤ 536870912 := by
    calc n.toNatClampNeg * 4 ≤ 2000 * 4 := Nat.mul_le_mul hm (Nat.le_refl _)
      _ ≤ 536870912 := by decide
  refine va_newq (D := D) hexec hb hown (hts _ h5) c1 hK hP hD hS hA (Int32.not_lt.mpr hn) rfl hby hnc hns hd (fun q1 cA H1 z0 z1 z2 z3 => ?_)
  rw [c2] at z0
  have hcA := bCy ht hK z0
  subst hcA
  refine bG_push (S := (ls, .int n :: r, cs, nc, ns)) hlim hls hr hcs hgo hl (fun ad' _ => ?_) z1 z2 z3
  rw [bE_arr k1, k2]
  congr 3
  have hnone : (fun k => bOp ad' ((List.replicate n.toNatClampNeg Value.null).getD k .null)) = fun _ => none := by
    funext k
    rw [List.getD_eq_getElem?_getD, List.getElem?_replicate]
    split <;> rfl
  unfold bRw
  dsimp only
  rw [k2]
  rcases c3 with c3 | c3 <;> simp only [c3, hnone]
theorem b1_ast (X : bCx p s m args meth c cc nL on cy D A e0) (hkb : kb = 20 ∨ kb = 30) {pc x k z v kv zv : Nat} {vs : List Value} {n : Int32} {r : List Value} {cs : List bC} {fs : List Value} {nc ns : Nat} (hd : decode cc pc = .ok (.aastore, 1)) (ho : o ≤ x) (hov : o ≤ v) (hc : cs[x - o]? = some (k, z, fs)) (hv : cs[v - o]? = some (kv, zv, vs)) (hk : k = kb + bRK kv) (ht : bRK kv ≤ 5) (hn : 0 ≤ n) (hz : n.toNatClampNeg < z) (hfz : fs.length = z)
    {B : Array Slot} {H : Heap} {locs : List Loc} (hP : va_P D vwCl (bW ad cy o cs) H) (hD : va_D A (bW ad cy o cs)) (hS : va_S A s.heap H locs)
    (kk : ∀ (H1 : Heap) (locs1 : List Loc), va_P D vwCl (bW ad cy o (cs.set (x - o) (k, z, fs.set n.toNatClampNeg (.ref v)))) H1 → va_D A (bW ad cy o (cs.set (x - o) (k, z, fs.set n.toNatClampNeg (.ref v)))) → va_S A s.heap H1 locs1 → W p l e R s m args below meth c H1 locs1 nc ns Qs (F0 m (pc + 1) B (r.map (atv ad)))) :
    W p l e R s m args below meth c H locs nc ns Qs (F0 m pc B (.ref (ad v) :: .int n :: .ref (ad x) :: r.map (atv ad))) := by
  obtain ⟨hexec, hb, hml, hown, hts, hK, hA, hAO1, hAO2, hZ, hin, hNW⟩ := X
  obtain ⟨k1, k2⟩ := bKb hkb ht
  rw [← hk] at k1 k2
  have hkv : (kv = 4 ∧ bRK kv = 4) ∨ (kv = 8 ∧ bRK kv = 5) := by
    unfold bRK at ht ⊢
    cases h4 : Nat.beq kv 4 with
    | true => exact Or.inl ⟨Nat.eq_of_beq_eq_true h4, rfl⟩
    | false =>
      rw [h4] at ht
      cases h8 : Nat.beq kv 8 with
      | true => exact Or.inr ⟨Nat.eq_of_beq_eq_true h8, rfl⟩
      | false => rw [h8] at ht; exact absurd ht (by decide)
  have hrow : ∀ gs : List Value, bRw ad (k, z, gs) = .inr (.inr (.inr (.inr fun j => bOp ad (gs.getD j .null)))) := by
    intro gs
    unfold bRw
    dsimp only
    rw [k2]
    rcases hkv with ⟨-, c3⟩ | ⟨-, c3⟩ <;> simp only [c3]
  have hg := bW_get (ad := ad) (cy := cy) (o := o) hc
  rw [bE_arr k1, k2, show o + (x - o) = x from by omega, hrow] at hg
  have hgv := bW_get (ad := ad) (cy := cy) (o := o) hv
  rw [bE_obj (Nat.ble_eq_true_of_le (by omega)), show o + (v - o) = v from by omega] at hgv
  have hset := bW_set (ad := ad) (cy := cy) (o := o) (c := (k, z, fs.set n.toNatClampNeg (.ref v))) ((List.getElem?_eq_some_iff.mp hc).1)
  rw [bE_arr k1, k2, show o + (x - o) = x from by omega, hrow] at hset
  have hup : (fun j => bOp ad ((fs.set n.toNatClampNeg (.ref v)).getD j .null)) = va_up (fun j => bOp ad (fs.getD j .null)) n.toNatClampNeg (some (ad v)) := by
    funext j
    unfold va_up
    show _ = if j = n.toNatClampNeg then some (ad v) else bOp ad (fs.getD j .null)
    rw [List.getD_eq_getElem?_getD, List.getD_eq_getElem?_getD, List.getElem?_set]
    by_cases ej : n.toNatClampNeg = j
    · subst ej
      rw [if_pos rfl, if_pos (by omega), if_pos rfl]
      rfl
    · rw [if_neg ej, if_neg (fun z => ej z.symm)]
  rw [hup] at hset
  have hin2 : vp_in n z := by
    rintro (q | q)
    · exact absurd q (Int32.not_lt.mpr hn)
    · omega
  rcases hkv with ⟨e1, e2⟩ | ⟨e1, e2⟩
  · subst e1
    exact va_astq (D := D) (r := (RX5, TX5, 6)) hexec hb hK hP hD hS (x - o) 4 (v - o) 4 hg (by rw [e2]; rfl) hgv rfl hin2 hd (fun H1 locs1 z1 z2 z3 => kk H1 locs1 (hset ▸ z1) (hset ▸ z2) z3)
  · subst e1
    exact va_astq (D := D) (r := (RX10, TX10, 7)) hexec hb hK hP hD hS (x - o) 5 (v - o) 8 hg (by rw [e2]; rfl) hgv rfl hin2 hd (fun H1 locs1 z1 z2 z3 => kk H1 locs1 (hset ▸ z1) (hset ▸ z2) z3)
theorem b1_get (X : bCx p s m args meth c cc nL on cy D A e0) {q : aQ} (hq : aLok q) (h1 : q.1 = on) {i pc x k z : Nat} (h2 : q.2.1 = i) {v : Value} {r : List Value} {cs : List bC} {fs : List Value} {nc ns : Nat} (hd : decode cc pc = .ok (.getfield i, 3)) (ho : o ≤ x) (hc : cs[x - o]? = some (k, z, fs)) (hk : k = q.2.2.1) (hf : fs[q.2.2.2]? = some v)
    {B : Array Slot} {H : Heap} {locs : List Loc} (hP : va_P D vwCl (bW ad cy o cs) H)
    (kk : W p l e R s m args below meth c H locs nc ns Qs (F0 m (pc + 3) B (atv ad v :: r.map (atv ad)))) :
    W p l e R s m args below meth c H locs nc ns Qs (F0 m pc B (.ref (ad x) :: r.map (atv ad))) := by
  obtain ⟨hexec, hb, hml, hown, hts, hK, hA, hAO1, hAO2, hZ, hin, hNW⟩ := X
  obtain ⟨⟨C, T, N⟩, h3, h4, h5⟩ := hq
  have h3' : q.2.2.1 < 12 := (List.getElem?_eq_some_iff.mp h3).1
  have h20 : Nat.blt k 20 = true := Nat.ble_eq_true_of_le (by omega)
  have hg := bW_get (ad := ad) (cy := cy) (o := o) hc
  rw [bE_obj h20, show o + (x - o) = x from by omega, hk] at hg
  rw [h1, h2] at h5
  exact va_get (D := D) hexec hb hts (aCk_ok _ _ h3).1 hown hK hP (x - o) hg h3 q.2.2.2 h4 (hts _ h5) (fun _ h => h) (by rw [List.getElem?_map, hf]; rfl) hd kk
end
end
section
/-! the machine of the constructors: whole runs -/
theorem find_link {nl : List aQ} {on i : Nat} {q : aQ} (h : (nl.find? fun q => Nat.beq q.1 on && Nat.beq q.2.1 i) = some q) : q ∈ nl ∧ q.1 = on ∧ q.2.1 = i := by
  have h1 := List.find?_some h
  obtain ⟨a, b⟩ := (Bool.and_eq_true _ _).mp h1
  exact ⟨List.mem_of_find?_eq_some h, Nat.eq_of_beq_eq_true a, Nat.eq_of_beq_eq_true b⟩
section
variable {p : Program} {l : Launch} {e : Env} {R : Room} {s : State} {m : MethodId} {args : Array Value} {below : List Frame} {meth : Method} {c : Code} {cc : ByteArray} {nL on : Nat} {ad : Nat → Nat} {cy : Nat → ClassId} {D : va_G} {A : Nat → Prop} {Qs : State → Prop} {o kb e0 : Nat} {nl : List aQ}
theorem bgo_inv {pc pc' : Nat} {off : Int} {S S' : bS} (h : bgo pc off S = some (pc', S')) : (pc : Int) + off = (pc' : Int) ∧ S = S' := by
  unfold bgo at h
  obtain ⟨h1, h2⟩ := cond_some h
  cases h2
  exact ⟨(Int.toNat_of_nonneg (of_decide_eq_true h1)).symm, rfl⟩
set_option maxHeartbeats 1000000 in
theorem b1_ok (X : bCx p s m args meth c cc nL on cy D A e0) (hkb : kb = 20 ∨ kb = 30) (hnl : ∀ q ∈ nl, bNok q) (hI : ∀ ci, bIok ci) {mc ms : Nat} (hmc : mc ≤ R.cells) (hms : ms ≤ R.slots) (had : ad 2000 = e0) {ins : ClassFile.Instr} {len pc pc' : Nat} {S S' : bS} (hd : decode cc pc = .ok (ins, len)) (h : b1 o kb mc ms on nl ins len pc S = some (pc', S'))
    (hgo : S.2.2.1.length ≤ S'.2.2.1.length → ∀ ad', bAg (o + S.2.2.1.length) ad ad' → bG p l e R s m args below meth c nL cy D A Qs o pc' S' ad') : bG p l e R s m args below meth c nL cy D A Qs o pc S ad := by
  have X0 := X
  obtain ⟨hx, hb, hml, hown, hts, hK, hA, hAO1, hAO2, hZ, hin, hNW⟩ := X
  obtain ⟨ls, st, cs, nc, ns⟩ := S
  dsimp only at hgo
  unfold b1 at h
  dsimp only at h
  cases ins with
  | aload_n k =>
    dsimp only at h
    split at h
    · rename_i x hk
      obtain ⟨h1, h2⟩ := cond_some h
      have h1 := Nat.eq_of_beq_eq_true h1
      subst h1
      cases h2
      intro B H locs hl hP hD hS
      exact lv_aload_n hx hb hd rfl (hl.at hk) (hgo (Nat.le_refl _) ad bAg.rf B H locs hl hP hD hS)
    · cases h
  | iload_n k =>
    dsimp only at h
    split at h
    · rename_i x hk
      obtain ⟨h1, h2⟩ := cond_some h
      have h1 := Nat.eq_of_beq_eq_true h1
      subst h1
      cases h2
      intro B H locs hl hP hD hS
      exact lv_iload_n hx hb hd rfl (hl.at hk) (hgo (Nat.le_refl _) ad bAg.rf B H locs hl hP hD hS)
    · cases h
  | istore_n k =>
    dsimp only at h
    split at h
    · rename_i x r
      obtain ⟨h1, h2⟩ := cond_some h
      obtain ⟨h1, h3⟩ := (Bool.and_eq_true _ _).mp h1
      have h1 := Nat.eq_of_beq_eq_true h1
      have h3 := Nat.le_of_ble_eq_true h3
      subst h1
      cases h2
      intro B H locs hl hP hD hS
      exact lv_istore_n hx hb hd rfl hl.2 (by rw [← hl.1]; exact h3) rfl (fun B1 q => hgo (Nat.le_refl _) ad bAg.rf B1 H locs (hl.st1 q) hP hD hS)
    · cases h
  | astore_n k =>
    dsimp only at h
    split at h
    · rename_i x r
      obtain ⟨h1, h2⟩ := cond_some h
      obtain ⟨h1, h3⟩ := (Bool.and_eq_true _ _).mp h1
      have h1 := Nat.eq_of_beq_eq_true h1
      have h3 := Nat.le_of_ble_eq_true h3
      subst h1
      cases h2
      intro B H locs hl hP hD hS
      exact lv_astore_n hx hb hd rfl hl.2 (by rw [← hl.1]; exact h3) rfl (fun B1 q => hgo (Nat.le_refl _) ad bAg.rf B1 H locs (hl.st1 q) hP hD hS)
    · cases h
  | iconst n =>
    obtain ⟨h1, h2⟩ := cond_some h
    have h1 := Nat.eq_of_beq_eq_true h1
    subst h1
    cases h2
    intro B H locs hl hP hD hS
    exact lv_iconst hx hb hd rfl (hgo (Nat.le_refl _) ad bAg.rf B H locs hl hP hD hS)
  | bipush n =>
    obtain ⟨h1, h2⟩ := cond_some h
    have h1 := Nat.eq_of_beq_eq_true h1
    subst h1
    cases h2
    intro B H locs hl hP hD hS
    exact lv_bipush hx hb hd rfl (hgo (Nat.le_refl _) ad bAg.rf B H locs hl hP hD hS)
  | sipush n =>
    obtain ⟨h1, h2⟩ := cond_some h
    have h1 := Nat.eq_of_beq_eq_true h1
    subst h1
    cases h2
    intro B H locs hl hP hD hS
    exact lv_sipush hx hb hd rfl (hgo (Nat.le_refl _) ad bAg.rf B H locs hl hP hD hS)
  | dup =>
    dsimp only at h
    split at h
    · rename_i x r
      obtain ⟨h1, h2⟩ := cond_some h
      have h1 := Nat.eq_of_beq_eq_true h1
      subst h1
      cases h2
      intro B H locs hl hP hD hS
      exact lv_dup hx hb hd rfl (hgo (Nat.le_refl _) ad bAg.rf B H locs hl hP hD hS)
    · cases h
  | iinc k n =>
    dsimp only at h
    split at h
    · rename_i x hk
      obtain ⟨h1, h2⟩ := cond_some h
      obtain ⟨h1, h3⟩ := (Bool.and_eq_true _ _).mp h1
      have h1 := Nat.eq_of_beq_eq_true h1
      have h3 := Nat.le_of_ble_eq_true h3
      subst h1
      cases h2
      intro B H locs hl hP hD hS
      obtain ⟨k0, hk0⟩ := List.getElem?_of_mem ((apr_mem (ad := ad) ls 0 (k, .int x)).mpr ⟨k, .int x, hk, by rw [Nat.zero_add]; rfl⟩)
      exact lv_iinc hx hb hd hl.2 hk0 rfl (by rw [← hl.1]; exact h3) rfl (fun B1 q => hgo (Nat.le_refl _) ad bAg.rf B1 H locs (hl.st1 q) hP hD hS)
    · cases h
  | goto off =>
    obtain ⟨h1, h2⟩ := cond_some2 h
    have h1 := Nat.eq_of_beq_eq_true h1
    subst h1
    obtain ⟨h3, h4⟩ := bgo_inv h2
    subst h4
    intro B H locs hl hP hD hS
    exact lv_goto hx hb hd h3 (hgo (Nat.le_refl _) ad bAg.rf B H locs hl hP hD hS)
  | if_icmp cnd off =>
    cases cnd with
    | ge =>
      dsimp only at h
      split at h
      · rename_i y x r
        obtain ⟨h1, h2⟩ := cond_some2 h
        obtain ⟨h1, h0⟩ := (Bool.and_eq_true _ _).mp h1
        have h1 := Nat.eq_of_beq_eq_true h1
        subst h1
        intro B H locs hl hP hD hS
        cases hc : decide (y ≤ x) with
        | true =>
          rw [hc] at h2
          obtain ⟨h3, h4⟩ := bgo_inv h2
          subst h4
          exact lv_icmp_ge hx hb hd h3 (fun _ => hgo (Nat.le_refl _) ad bAg.rf B H locs hl hP hD hS) (fun z => absurd (of_decide_eq_true hc) z)
        | false =>
          rw [hc] at h2
          cases h2
          exact lv_icmp_ge (tgt := ((pc : Int) + off).toNat) hx hb hd (Int.toNat_of_nonneg (of_decide_eq_true h0)).symm (fun z => absurd z (of_decide_eq_false hc)) (fun _ => hgo (Nat.le_refl _) ad bAg.rf B H locs hl hP hD hS)
      · cases h
    | _ => cases h
  | new i =>
    dsimp only at h
    split at h
    · rename_i q hq
      obtain ⟨q1, q2, q3⟩ := find_link hq
      obtain ⟨h1, h2⟩ := cond_some h
      simp only [Bool.and_eq_true] at h1
      obtain ⟨g1, g2, g3, g4, g5, g6, g7⟩ := h1
      have g1 := Nat.eq_of_beq_eq_true g1
      subst g1
      cases h2
      exact b1_new X0 (hnl _ q1) (hI _) q2 q3 hd (Nat.le_of_ble_eq_true g2) g3 g4 g5 (Nat.le_trans (Nat.le_of_ble_eq_true g6) hmc) (Nat.le_trans (Nat.le_of_ble_eq_true g7) hms) (hgo (by rw [List.length_append]; omega))
    · cases h
  | newarray t =>
    dsimp only at h
    split at h
    · rename_i n r
      obtain ⟨h1, h2⟩ := cond_some h
      simp only [Bool.and_eq_true] at h1
      obtain ⟨g1, g2, g3, g4, g5, g6, g7, g8, g9, g10⟩ := h1
      have g1 := Nat.eq_of_beq_eq_true g1
      subst g1
      cases h2
      exact b1_newa X0 hkb (Nat.le_of_ble_eq_true g10) hd (Nat.le_of_ble_eq_true g2) g3 g4 g5 (Nat.le_trans (Nat.le_of_ble_eq_true g6) hmc) (Nat.le_trans (Nat.le_of_ble_eq_true g7) hms) (of_decide_eq_true g8) (Nat.le_of_ble_eq_true g9) (hgo (by rw [List.length_append]; omega))
    · cases h
  | anewarray i =>
    dsimp only at h
    split at h
    · rename_i q hq
      obtain ⟨q1, q2, q3⟩ := find_link hq
      split at h
      · rename_i n r
        obtain ⟨h1, h2⟩ := cond_some h
        simp only [Bool.and_eq_true] at h1
        obtain ⟨g1, g2, g3, g4, g5, g6, g7, g8, g9, g10⟩ := h1
        have g1 := Nat.eq_of_beq_eq_true g1
        subst g1
        cases h2
        exact b1_newq X0 hkb (hnl _ q1) q2 q3 (Nat.le_of_ble_eq_true g10) hd (Nat.le_of_ble_eq_true g2) g3 g4 g5 (Nat.le_trans (Nat.le_of_ble_eq_true g6) hmc) (Nat.le_trans (Nat.le_of_ble_eq_true g7) hms) (of_decide_eq_true g8) (Nat.le_of_ble_eq_true g9) (hgo (by rw [List.length_append]; omega))
      · cases h
    · cases h
  | putfield i =>
    dsimp only at h
    split at h
    · rename_i q hq
      obtain ⟨q1, q2, q3⟩ := find_link hq
      split at h
      · rename_i v x r
        split at h
        · rename_i k z fs hc
          obtain ⟨h1, h2⟩ := cond_some h
          simp only [Bool.and_eq_true] at h1
          obtain ⟨g1, g2, g3, g4, g5, g6⟩ := h1
          have g1 := Nat.eq_of_beq_eq_true g1
          subst g1
          cases h2
          intro B H locs hl hP hD hS
          exact b1_put X0 (bLT_ok _ q1) q2 q3 hd (Nat.le_of_ble_eq_true g2) hc (Nat.eq_of_beq_eq_true g3) (Nat.eq_of_beq_eq_true g4) (Nat.le_of_ble_eq_true g5) g6 hP hD hS (fun H1 locs1 z1 z2 z3 => hgo (by dsimp only; rw [List.length_set]; exact Nat.le_refl _) ad bAg.rf B H1 locs1 hl z1 z2 z3)
        · cases h
      · cases h
    · cases h
  | getfield i =>
    dsimp only at h
    split at h
    · rename_i q hq
      obtain ⟨q1, q2, q3⟩ := find_link hq
      split at h
      · rename_i x r
        split at h
        · rename_i k z fs hc
          split at h
          · rename_i v hv
            obtain ⟨h1, h2⟩ := cond_some h
            simp only [Bool.and_eq_true] at h1
            obtain ⟨g1, g2, g3⟩ := h1
            have g1 := Nat.eq_of_beq_eq_true g1
            subst g1
            cases h2
            intro B H locs hl hP hD hS
            exact b1_get X0 (bLT_ok _ q1) q2 q3 hd (Nat.le_of_ble_eq_true g2) hc (Nat.eq_of_beq_eq_true g3) hv hP (hgo (Nat.le_refl _) ad bAg.rf B H locs hl hP hD hS)
          · cases h
        · cases h
      · cases h
    · cases h
  | getstatic i =>
    obtain ⟨h1, h2⟩ := cond_some h
    simp only [Bool.and_eq_true] at h1
    obtain ⟨g1, g2, g3⟩ := h1
    have g1 := Nat.eq_of_beq_eq_true g1
    have g2 := Nat.eq_of_beq_eq_true g2
    have g3 := Nat.eq_of_beq_eq_true g3
    subst g1
    subst g2
    subst g3
    cases h2
    intro B H locs hl hP hD hS
    refine va_gets hx hb hZ hS hown (hts _ bEnd) (fun _ h => h) hd ?_
    rw [← had]
    exact hgo (Nat.le_refl _) ad bAg.rf B H locs hl hP hD hS
  | aastore =>
    dsimp only at h
    split at h
    · rename_i v n x r
      split at h
      · rename_i k z fs hc
        split at h
        · rename_i kv zv vs hv
          obtain ⟨h1, h2⟩ := cond_some h
          simp only [Bool.and_eq_true] at h1
          obtain ⟨g1, g2, g3, g4, g5, g6, g7, g8⟩ := h1
          have g1 := Nat.eq_of_beq_eq_true g1
          subst g1
          cases h2
          intro B H locs hl hP hD hS
          exact b1_ast X0 hkb hd (Nat.le_of_ble_eq_true g2) (Nat.le_of_ble_eq_true g3) hc hv (Nat.eq_of_beq_eq_true g4) (Nat.le_of_ble_eq_true g5) (of_decide_eq_true g6) (Nat.le_of_ble_eq_true g7) (Nat.eq_of_beq_eq_true g8) hP hD hS (fun H1 locs1 z1 z2 z3 => hgo (by dsimp only; rw [List.length_set]; exact Nat.le_refl _) ad bAg.rf B H1 locs1 hl z1 z2 z3)
        · cases h
      · cases h
    · cases h
  | _ => cases h
end
/-- what the tables say of a constructor -/
def bMok (k : Nat) (i : bMI) : Prop := plainFor i.1 = true ∧ i.1.name = "<init>" ∧ i.1.cls = aCN k ∧ (i.1.cls ≠ "java/lang/invoke/MethodHandle" ∧ i.1.cls ≠ "java/lang/invoke/VarHandle" ∧ (parseMethodDescriptor i.1.desc).map (fun d => d.parameters.length) = some i.2.2.2.1) ∧ i.2.2.1 ≤ 100 ∧ Cond.code i.1 i.2.1 i.2.2.1 none ∈ aWS ∧ Cond.instanceMethod i.1 ∈ aWS ∧ Cond.initialized i.1.cls ∈ aWS ∧ decode i.2.1 i.2.2.2.2.2.2 = .ok (.return_, 1)
def bCok (BM : Nat → bMI) (q : aQ) : Prop := (q.2.2.2 = 1 → Cond.methodLink (aCN q.1) q.2.1 Lib.objectInit ∈ aWS) ∧ (q.2.2.2 ≠ 1 → Cond.methodLink (aCN q.1) q.2.1 (BM q.2.2.1).1 ∈ aWS ∨ Cond.methodLinkNest (aCN q.1) q.2.1 (BM q.2.2.1).1 RX12 ∈ aNW)
def bRm (d mc ms : Nat) : Room := { frames := d + 2, cells := mc, slots := ms, locals := 120 * (d + 2) }
def bPc (o : Nat) (cy : Nat → ClassId) (D : va_G) (A : Nat → Prop) (e0 : Nat) (ad : Nat → Nat) (av : List Value) (cs : List bC) : Array Value → State → Prop := va_Pc (av.map (atv ad)) fun U => va_P D vwCl (bW ad cy o cs) U.heap ∧ va_D A (bW ad cy o cs) ∧ va_K D vwCl (atys cy) U ∧ (∀ q, U.heap.size ≤ q → A q) ∧ va_AO RX5 U ∧ va_AO RX10 U ∧ va_Z RX9 "END" "LFoldedRealm$Sort;" (.ref e0) A U U.heap ∧ ∀ w ∈ aNW, va_Nw w U
theorem bPc_blind {o : Nat} {cy : Nat → ClassId} {D : va_G} {A : Nat → Prop} {e0 : Nat} {ad : Nat → Nat} {av : List Value} {cs : List bC} : FrameBlind (bPc o cy D A e0 ad av cs) := by
  intro a U g mk h
  obtain ⟨h1, h2, h3, h4, h5, h6, h7, h8, h9⟩ := h
  exact ⟨h1, h2, h3, va_K.moved (u := U) (U := U.calling g mk a) (Vm.Alike.refl U.vm) h4, h5, va_AO.moved (u := U) (U := U.calling g mk a) (Vm.Alike.refl U.vm) h6, va_AO.moved (u := U) (U := U.calling g mk a) (Vm.Alike.refl U.vm) h7, va_Z.moved (u := U) (U := U.calling g mk a) (Vm.Alike.refl U.vm) h8, aNW_same (s := U) (U := U.calling g mk a) rfl h9⟩
def bQc (o : Nat) (cy : Nat → ClassId) (D : va_G) (A : Nat → Prop) (ad : Nat → Nat) (n : Nat) (cs : List bC) : Array Value → State → Outcome → State → Prop := va_Qv (S := Nat → Nat) (fun ad' => bAg (o + n) ad ad') (fun ad' t => va_P D vwCl (bW ad' cy o cs) t.heap ∧ va_D A (bW ad' cy o cs)) A
theorem bO_i : Cond.instanceMethod Lib.objectInit ∈ aWS := aW_t 33 (by decide +kernel) (by decide +kernel)
theorem bO_c : Cond.code Lib.objectInit ⟨#[0xb1]⟩ 1 none ∈ aWS := aW_t 34 (by decide +kernel) (by decide +kernel)
section
variable {l : Launch} {cy : Nat → ClassId} {D : va_G} {A : Nat → Prop} {o kb e0 : Nat} {nl cl : List aQ} {BM : Nat → bMI}
/-- what a run says -/
def bRun (l : Launch) (cy : Nat → ClassId) (D : va_G) (A : Nat → Prop) (o e0 : Nat) (BM : Nat → bMI) (d j pc : Nat) (S S' : bS) : Prop :=
  ∀ (p : Program) (e : Env) (R : Room) (s : State) (m : MethodId) (args : Array Value) (below : List Frame) (meth : Method) (c : Code) (Qs : State → Prop) (ad : Nat → Nat), bCx p s m args meth c (BM j).2.1 (BM j).2.2.1 j cy D A e0 → d + 2 ≤ R.frames → 120 * (d + 2) ≤ R.locals → (BM j).2.2.2.2.1 ≤ R.cells → (BM j).2.2.2.2.2.1 ≤ R.slots → ad 2000 = e0 →
    (∀ ad', bAg (o + S.2.2.1.length) ad ad' → bG p l e R s m args below meth c (BM j).2.2.1 cy D A Qs o (BM j).2.2.2.2.2.2 S' ad') → bG p l e R s m args below meth c (BM j).2.2.1 cy D A Qs o pc S ad
theorem bMet_of {d k : Nat} (hB : bMok k (BM k)) {av : List Value} {cs cs' : List bC} {ls' : aLs} {nc ns : Nat} {ad : Nat → Nat} (hfit : (alE av).length ≤ (BM k).2.2.1) (had : ad 2000 = e0) (hnc : nc ≤ (BM k).2.2.2.2.1) (hns : ns ≤ (BM k).2.2.2.2.2.1)
    (h : bRun l cy D A o e0 BM d k 0 (alc av (BM k).2.2.1, [], cs, 0, 0) (ls', [], cs', nc, ns)) :
    Met l (BM k).1 (Cond.code (BM k).1 (BM k).2.1 (BM k).2.2.1 none :: aWS) (bRm d (BM k).2.2.2.2.1 (BM k).2.2.2.2.2.1) (bPc o cy D A e0 ad av cs) (bQc o cy D A ad cs.length cs') (BM k).2.2.2.2.1 (BM k).2.2.2.2.2.1 A := by
  obtain ⟨m1, m2, m3, m4, m5, m6, m7, m8, m9⟩ := hB
  refine metF (cc := (BM k).2.1) (maxL := (BM k).2.2.1) (ret := none) m1 rfl ?_
  intro p e s m args below meth c s₁ B hml hv
  obtain ⟨hargs, hP, hD, hK, hA, hAO1, hAO2, hZ, hN⟩ := hv
  subst hargs
  have hts := atoms_spec B.pre
  have hlocks := B.notSynchronized
  have hr := B.returns
  have X : bCx p s m (av.map (atv ad)).toArray meth c (BM k).2.1 (BM k).2.2.1 k cy D A e0 :=
    ⟨B.exec, B.bytes, hml, by rw [← m3]; exact findClass_of_methodNamed B.named, fun w hw => hts w (List.mem_cons_of_mem _ hw), hK, hA, hAO1, hAO2, hZ, (name_of_methodNamed B.named B.method).1.trans m2, hN⟩
  rw [lg_entry_eq]
  have hl := lv_entry (av.map (atv ad)) (n := (BM k).2.2.1) (by rw [alE_len]; exact hfit)
  have hl' : aHas ad ((lg_sl (av.map (atv ad)) ++ List.replicate ((BM k).2.2.1 - (lg_sl (av.map (atv ad))).length) Slot.unset).toArray) (BM k).2.2.1 (alc av (BM k).2.2.1) := by
    refine ⟨?_, ?_⟩
    · unfold alc
      rw [List.length_append, List.length_replicate]
      omega
    · unfold alc
      rw [apr_args]
      exact hl
  refine h p e _ s m _ below meth c _ ad X (Nat.le_refl _) (Nat.le_refl _) (Nat.le_refl _) (Nat.le_refl _) had (fun ad' hag => ?_) _ s.heap [] hl' hP hD va_S.rf
  intro B1 H locs hl1 hP1 hD1 hS1
  dsimp only at hP1 hD1 ⊢
  refine W.widen hnc hns ?_
  exact W.vret X.1 X.2.1 hr (fun t ht hW => ⟨⟨ad', rfl, hag, by rw [ht]; exact hP1, hD1⟩, hS1.F ht⟩) hS1.2.2 m9 hlocks
end
end
section
/-! the machine of the constructors: a run is the true machine's -/
theorem bRoom {z d L : Nat} (h : z ≤ 100) (h2 : 120 * (d + 1 + 2) ≤ L) : 8 + (z + 11) + 120 * (d + 2) ≤ L := by omega
section
variable {l : Launch} {cy : Nat → ClassId} {D : va_G} {A : Nat → Prop} {o kb e0 : Nat} {nl cl : List aQ} {BM : Nat → bMI}
theorem bst_call {p : Program} {e : Env} {R : Room} {s : State} {m : MethodId} {args : Array Value} {below : List Frame} {meth : Method} {c : Code} {cc : ByteArray} {nL on : Nat} {ad : Nat → Nat} {Qs : State → Prop} (X : bCx p s m args meth c cc nL on cy D A e0) {q : aQ} (hq : bCok BM q) (h1 : q.1 = on) {i pc x : Nat} (h2 : q.2.1 = i) (hne : q.2.2.2 ≠ 1) (hB : bMok q.2.2.1 (BM q.2.2.1)) {d : Nat} (hfr : d + 1 + 2 ≤ R.frames) (hlo : 120 * (d + 1 + 2) ≤ R.locals)
    {ls : aLs} {As r : List Value} {cs cs' : List bC} {nc ns : Nat} (hd : decode cc pc = .ok (.invokespecial i, 3)) (hn : As.length = (BM q.2.2.1).2.2.2.1) (hr8 : acs r ≤ 8) (hls : bLs (o + cs.length) ls = true) (hr : r.all (bLim (o + cs.length)) = true) (hnc : nc + (BM q.2.2.1).2.2.2.2.1 ≤ R.cells) (hns : ns + (BM q.2.2.1).2.2.2.2.2.1 ≤ R.slots)
    (hM : Met l (BM q.2.2.1).1 (Cond.code (BM q.2.2.1).1 (BM q.2.2.1).2.1 (BM q.2.2.1).2.2.1 none :: aWS) (bRm d (BM q.2.2.1).2.2.2.2.1 (BM q.2.2.1).2.2.2.2.2.1) (bPc o cy D A e0 ad (.ref x :: As) cs) (bQc o cy D A ad cs.length cs') (BM q.2.2.1).2.2.2.2.1 (BM q.2.2.1).2.2.2.2.2.1 A)
    (hgo : ∀ ad', bAg (o + cs.length) ad ad' → bG p l e R s m args below meth c nL cy D A Qs o (pc + 3) (ls, r, cs', nc + (BM q.2.2.1).2.2.2.2.1, ns + (BM q.2.2.1).2.2.2.2.2.1) ad') : bG p l e R s m args below meth c nL cy D A Qs o pc (ls, As.reverse ++ .ref x :: r, cs, nc, ns) ad := by
  obtain ⟨hx, hb, hml, hown, hts, hK, hA, hAO1, hAO2, hZ, hin, hNW⟩ := X
  obtain ⟨m1, m2, m3, m4, m5, m6, m7, m8, m9⟩ := hB
  intro B H locs hl hP hD hS
  dsimp only at hl hP hD ⊢
  have hpre : PreS s H (bPc o cy D A e0 ad (.ref x :: As) cs) (.ref (ad x) :: As.map (atv ad)) := ⟨bPc_blind, fun U hU hW => ⟨rfl, by rw [hU]; exact hP, hD, va_K.moved hW.alike hK, by rw [hU]; exact fun q hq => hA q (Nat.le_trans hS.1 hq), va_AO.moved hW.alike hAO1, va_AO.moved hW.alike hAO2, by rw [hU]; exact (va_Z.moved hW.alike hZ).kept hS.2.1, aNW_warm hW hNW⟩⟩
  have hst : (As.reverse ++ Value.ref x :: r).map (atv ad) = (As.map (atv ad)).reverse ++ .ref (ad x) :: r.map (atv ad) := by
    rw [List.map_append, List.map_reverse]
    rfl
  rw [hst]
  have hrm : (bRm d (BM q.2.2.1).2.2.2.2.1 (BM q.2.2.1).2.2.2.2.2.1).frames + 1 ≤ R.frames ∧ 8 + ((BM q.2.2.1).2.2.1 + 11) + (bRm d (BM q.2.2.1).2.2.2.2.1 (BM q.2.2.1).2.2.2.2.2.1).locals ≤ R.locals := by
    constructor
    · show d + 2 + 1 ≤ R.frames
      omega
    · show 8 + ((BM q.2.2.1).2.2.1 + 11) + 120 * (d + 2) ≤ R.locals
      exact bRoom m5 hlo
  have hG : GoodIn aWS (Cond.code (BM q.2.2.1).1 (BM q.2.2.1).2.1 (BM q.2.2.1).2.2.1 none :: aWS) := aGood (ws := []) m6 (fun _ h => by cases h)
  have fin : ∀ (hr : va_Run p l e R s m args below meth c H locs nc ns (BM q.2.2.1).2.2.2.2.1 (BM q.2.2.1).2.2.2.2.2.1 (F0 m pc B ((As.map (atv ad)).reverse ++ .ref (ad x) :: r.map (atv ad))) (r.map (atv ad)) (bQc o cy D A ad cs.length cs' (Value.ref (ad x) :: As.map (atv ad)).toArray) A), W p l e R s m args below meth c H locs nc ns Qs (F0 m pc B ((As.map (atv ad)).reverse ++ .ref (ad x) :: r.map (atv ad))) := by
    intro hrun
    refine va_callv hrun hS (fun _ _ h => h) (fun _ h => h) (fun ad' t H1 locs1 e1 e2 hag hB1 e3 e4 hS1 => ?_)
    have hgo' := hgo ad' hag B H1 locs1 (aHas_ag hag hls hl) (by rw [← e1]; exact hB1.1) hB1.2 hS1
    dsimp only at hgo'
    rw [bMap_ag hag hr] at hgo'
    exact hgo'
  have hlk := hq.2 hne
  rw [h1, h2] at hlk
  rcases hlk with hlk | hlk
  · exact fin (va_runI (As := As.map (atv ad)) (rest := r.map (atv ad)) (Ts := aWS) ⟨hx, hb, hml, hown, hts⟩ hM (cwI (BM q.2.2.1).2.2.2.1 hts hG rfl rfl rfl (hts _ m8) (hts _ hlk) (hts _ m7) m2 m4 hrm) hpre rfl (by rw [List.length_map]; exact hn) hl.2.1 rfl (lv_room (by rw [acs_map]; exact hr8)) hd ⟨hnc, hns⟩)
  · exact fin (va_runIN (As := As.map (atv ad)) (rest := r.map (atv ad)) (Ts := aWS) ⟨hx, hb, hml, hown, hts⟩ hM ⟨va_cnB (BM q.2.2.1).2.2.2.1 hts hG rfl rfl rfl (hNW _ hlk) (hts _ m8) m4 hrm, m2, hts _ m7⟩ hpre rfl (by rw [List.length_map]; exact hn) hl.2.1 rfl (lv_room (by rw [acs_map]; exact hr8)) hd ⟨hnc, hns⟩)
theorem bst_ok (hkb : kb = 20 ∨ kb = 30) (hnl : ∀ q ∈ nl, bNok q) (hI : ∀ ci, bIok ci) (hcl : ∀ q ∈ cl, bCok BM q) (hB : ∀ q ∈ cl, q.2.2.2 ≠ 1 → bMok q.2.2.1 (BM q.2.2.1)) : ∀ (f d j pc : Nat) (S S' : bS), bst o kb nl cl BM f d j pc S = some S' → bRun l cy D A o e0 BM d j pc S S' := by
  intro f
  induction f with
  | zero => intro d j pc S S' h; cases h
  | succ f ih =>
    intro d j pc S S' h p e R s m args below meth c Qs ad X hfr hlo hce hsl had hgo
    unfold bst at h
    cases hst : Nat.beq pc (BM j).2.2.2.2.2.2 with
    | true =>
      rw [hst] at h
      cases h
      rw [Nat.eq_of_beq_eq_true hst]
      exact hgo ad bAg.rf
    | false =>
      rw [hst, cond_false] at h
      split at h
      · rename_i i len hd
        split at h
        · rename_i q hq
          obtain ⟨q1, q2, q3⟩ := find_link hq
          cases h1 : Nat.beq q.2.2.2 1 with
          | true =>
            rw [h1, cond_true] at h
            split at h
            · rename_i ls x r cs nc ns
              obtain ⟨g1, h9⟩ := cond_some2 h
              clear h
              obtain ⟨g1, g2⟩ := (Bool.and_eq_true _ _).mp g1
              have g1 := Nat.eq_of_beq_eq_true g1
              have g2 := Nat.le_of_ble_eq_true g2
              subst g1
              have X0 := X
              obtain ⟨hx, hb, hml, hown, hts, hK, hA, hAO1, hAO2, hZ, hin, hNW⟩ := X
              have hlk := (hcl _ q1).1 (Nat.eq_of_beq_eq_true h1)
              rw [q2, q3] at hlk
              intro B H locs hl hP hD hS
              have hnext := ih d j (pc + 3) _ _ h9 p e R s m args below meth c Qs ad X0 hfr hlo hce hsl had hgo B H locs hl hP hD hS
              refine W.objInit hx hb hown (hts _ hlk) (hts _ bO_i) (hts _ bO_c) rfl (by rw [hml]; exact hl.2.1) rfl hd (by omega) ?_ hnext
              show 2 * 0 + (List.map (fun v => v.category) (r.map (atv ad))).sum + 12 ≤ R.locals
              rw [acs_map]
              omega
            · cases h
          | false =>
            rw [h1, cond_false] at h
            have hne : q.2.2.2 ≠ 1 := by
              intro z
              rw [z] at h1
              cases h1
            split at h
            · cases h
            · rename_i z0 d0
              split at h
              rename_i ls st cs nc ns
              split at h
              · rename_i x r hdr
                split at h
                · rename_i ls' cs' nc' ns' hrun
                  obtain ⟨g, h9⟩ := cond_some2 h
                  clear h
                  simp only [Bool.and_eq_true] at g
                  obtain ⟨g1, g2, g3, g4, g5, g6, g7, g8, g9, g10, g11, g12⟩ := g
                  have g1 := Nat.eq_of_beq_eq_true g1
                  subst g1
                  have g2 := Nat.le_of_ble_eq_true g2
                  have g3 := Nat.le_of_ble_eq_true g3
                  have g4 := Nat.le_of_ble_eq_true g4
                  have g7 := Nat.le_of_ble_eq_true g7
                  have g9 := Nat.le_of_ble_eq_true g9
                  have g10 := Nat.le_of_ble_eq_true g10
                  have g11 := Nat.le_of_ble_eq_true g11
                  have g12 := Nat.le_of_ble_eq_true g12
                  have hsplit : st = (st.take (BM q.2.2.1).2.2.2.1).reverse.reverse ++ .ref x :: r := by
                    rw [List.reverse_reverse, ← hdr, List.take_append_drop]
                  have hlen : (st.take (BM q.2.2.1).2.2.2.1).reverse.length = (BM q.2.2.1).2.2.2.1 := by
                    rw [List.length_reverse, List.length_take]
                    omega
                  have hr1 := ih d0 q.2.2.1 0 _ _ hrun
                  have hM := bMet_of (ad := ad) (hB q q1 hne) g9 had g2 g3 hr1
                  have hgoal := bst_call (ls := ls) (nc := nc) (ns := ns) (Qs := Qs) (e := e) (below := below) X (hcl q q1) q2 q3 hne (hB q q1 hne) hfr hlo hd hlen g4 g5 g6 (Nat.le_trans g10 hce) (Nat.le_trans g11 hsl) hM (fun ad' hag => ih (d0 + 1) j (pc + 3) _ _ h9 p e R s m args below meth c Qs ad' X hfr hlo hce hsl ((hag 2000 (Or.inr (Nat.le_refl _))).trans had) (fun ad2 hag2 => hgo ad2 (hag.trans (hag2.le (Nat.add_le_add_left g12 o)))))
                  rw [← hsplit] at hgoal
                  exact hgoal
                · cases h
              · cases h
        · cases h
      · rename_i ins len hni hd
        split at h
        · rename_i pc' S1 h1
          exact b1_ok X hkb hnl hI hce hsl had hd h1 (fun hlen ad' hag => ih d j pc' S1 S' h p e R s m args below meth c Qs ad' X hfr hlo hce hsl ((hag 2000 (Or.inr (Nat.le_refl _))).trans had) (fun ad2 hag2 => hgo ad2 (hag.trans (hag2.le (Nat.add_le_add_left hlen o)))))
        · cases h
      · cases h
end
end
section
/-! the constructors of both classes: their links, what they make -/
def bnl : List aQ := [(2, 9, 8, 0), (4, 9, 8, 0), (5, 19, 1, 0), (6, 40, 0, 0), (10, 9, 9, 0), (10, 16, 5, 0), (10, 25, 6, 0), (10, 35, 4, 0), (10, 46, 2, 0), (10, 53, 8, 0), (10, 60, 3, 0), (10, 67, 7, 0)]
theorem bnl_0 : bNok (2, 9, 8, 0) := ⟨_, rfl, aW_t 287 (by decide +kernel) (by decide +kernel)⟩
theorem bnl_1 : bNok (4, 9, 8, 0) := ⟨_, rfl, aW_t 222 (by decide +kernel) (by decide +kernel)⟩
theorem bnl_2 : bNok (5, 19, 1, 0) := ⟨_, rfl, aW_t 82 (by decide +kernel) (by decide +kernel)⟩
theorem bnl_3 : bNok (6, 40, 0, 0) := ⟨_, rfl, aW_t 114 (by decide +kernel) (by decide +kernel)⟩
theorem bnl_4 : bNok (10, 9, 9, 0) := ⟨_, rfl, aW_t 35 (by decide +kernel) (by decide +kernel)⟩
theorem bnl_5 : bNok (10, 16, 5, 0) := ⟨_, rfl, aW_t 76 (by decide +kernel) (by decide +kernel)⟩
theorem bnl_6 : bNok (10, 25, 6, 0) := ⟨_, rfl, aW_t 108 (by decide +kernel) (by decide +kernel)⟩
theorem bnl_7 : bNok (10, 35, 4, 0) := ⟨_, rfl, aW_t 216 (by decide +kernel) (by decide +kernel)⟩
theorem bnl_8 : bNok (10, 46, 2, 0) := ⟨_, rfl, aW_t 281 (by decide +kernel) (by decide +kernel)⟩
theorem bnl_9 : bNok (10, 53, 8, 0) := ⟨_, rfl, aW_t 301 (by decide +kernel) (by decide +kernel)⟩
theorem bnl_10 : bNok (10, 60, 3, 0) := ⟨_, rfl, aW_t 303 (by decide +kernel) (by decide +kernel)⟩
theorem bnl_11 : bNok (10, 67, 7, 0) := ⟨_, rfl, aW_t 333 (by decide +kernel) (by decide +kernel)⟩
theorem bnl_ok : ∀ q ∈ bnl, bNok q := List.forall_mem_cons.mpr ⟨bnl_0, List.forall_mem_cons.mpr ⟨bnl_1, List.forall_mem_cons.mpr ⟨bnl_2, List.forall_mem_cons.mpr ⟨bnl_3, List.forall_mem_cons.mpr ⟨bnl_4, List.forall_mem_cons.mpr ⟨bnl_5, List.forall_mem_cons.mpr ⟨bnl_6, List.forall_mem_cons.mpr ⟨bnl_7, List.forall_mem_cons.mpr ⟨bnl_8, List.forall_mem_cons.mpr ⟨bnl_9, List.forall_mem_cons.mpr ⟨bnl_10, List.forall_mem_cons.mpr ⟨bnl_11, fun _ h => absurd h List.not_mem_nil⟩⟩⟩⟩⟩⟩⟩⟩⟩⟩⟩⟩
def bM0 : bMI := (yX1_init, cX1_init, 3, 2, 2, 37, 29)
def bM1 : bMI := (yX2_init, cX2_init, 2, 1, 0, 0, 9)
def bM2 : bMI := (yX3_init, cX3_init, 2, 0, 65, 1024, 40)
def bM3 : bMI := (yX4_init, cX4_init, 1, 0, 6, 659, 53)
def bM4 : bMI := (yX5_init, cX5_init, 1, 0, 5, 103, 23)
def bM5 : bMI := (yX6_init, cX6_init, 2, 1, 2, 41, 29)
def bM6 : bMI := (yX7_init, cX7_init, 2, 0, 16, 1228, 111)
def bM7 : bMI := (yX8_init, cX8_init, 1, 0, 1, 12, 12)
def bM8 : bMI := (yX10_init, cX10_init, 1, 0, 3, 56, 27)
def bM9 : bMI := (yX11_init, cX11_init, 1, 0, 1, 1000, 20)
def bM10 : bMI := (yX12_init, cX12_init, 2, 0, 151, 5874, 156)
def bM11 : bMI := (yX13_init, cX13_init, 1, 0, 40, 5276, 323)
def bBM (k : Nat) : bMI := cond (Nat.ble k 5) (cond (Nat.ble k 2) (cond (Nat.ble k 0) (bM0) (cond (Nat.ble k 1) (bM1) (bM2))) (cond (Nat.ble k 3) (bM3) (cond (Nat.ble k 4) (bM4) (bM5)))) (cond (Nat.ble k 8) (cond (Nat.ble k 6) (bM6) (cond (Nat.ble k 7) (bM7) (bM8))) (cond (Nat.ble k 9) (bM9) (cond (Nat.ble k 10) (bM10) (bM11))))
def bcl : List aQ := [(0, 1, 0, 1), (1, 3, 0, 1), (2, 3, 0, 1), (2, 17, 8, 0), (3, 3, 0, 1), (4, 3, 0, 1), (4, 11, 8, 0), (5, 3, 0, 1), (5, 21, 1, 0), (6, 3, 0, 1), (6, 42, 0, 0), (7, 3, 0, 1), (8, 3, 0, 1), (9, 3, 0, 1), (10, 3, 0, 1), (10, 11, 9, 0), (10, 18, 5, 0), (10, 27, 6, 0), (10, 37, 4, 0), (10, 48, 2, 0), (10, 55, 8, 0), (10, 62, 3, 0), (10, 69, 7, 0), (11, 1, 0, 1)]
theorem bcl_0 : bCok bBM (0, 1, 0, 1) := ⟨fun _ => aW_t 119 (by decide +kernel) (by decide +kernel), fun h => absurd rfl h⟩
theorem bcl_1 : bCok bBM (1, 3, 0, 1) := ⟨fun _ => aW_t 87 (by decide +kernel) (by decide +kernel), fun h => absurd rfl h⟩
theorem bcl_2 : bCok bBM (2, 3, 0, 1) := ⟨fun _ => aW_t 286 (by decide +kernel) (by decide +kernel), fun h => absurd rfl h⟩
theorem bcl_3 : bCok bBM (2, 17, 8, 0) := ⟨fun h => absurd h (by decide), fun _ => Or.inr (aN_t 289 (by decide +kernel) (by decide +kernel))⟩
theorem bcl_4 : bCok bBM (3, 3, 0, 1) := ⟨fun _ => aW_t 308 (by decide +kernel) (by decide +kernel), fun h => absurd rfl h⟩
theorem bcl_5 : bCok bBM (4, 3, 0, 1) := ⟨fun _ => aW_t 221 (by decide +kernel) (by decide +kernel), fun h => absurd rfl h⟩
theorem bcl_6 : bCok bBM (4, 11, 8, 0) := ⟨fun h => absurd h (by decide), fun _ => Or.inr (aN_t 224 (by decide +kernel) (by decide +kernel))⟩
theorem bcl_7 : bCok bBM (5, 3, 0, 1) := ⟨fun _ => aW_t 81 (by decide +kernel) (by decide +kernel), fun h => absurd rfl h⟩
theorem bcl_8 : bCok bBM (5, 21, 1, 0) := ⟨fun h => absurd h (by decide), fun _ => Or.inl (aW_t 84 (by decide +kernel) (by decide +kernel))⟩
theorem bcl_9 : bCok bBM (6, 3, 0, 1) := ⟨fun _ => aW_t 113 (by decide +kernel) (by decide +kernel), fun h => absurd rfl h⟩
theorem bcl_10 : bCok bBM (6, 42, 0, 0) := ⟨fun h => absurd h (by decide), fun _ => Or.inl (aW_t 116 (by decide +kernel) (by decide +kernel))⟩
theorem bcl_11 : bCok bBM (7, 3, 0, 1) := ⟨fun _ => aW_t 338 (by decide +kernel) (by decide +kernel), fun h => absurd rfl h⟩
theorem bcl_12 : bCok bBM (8, 3, 0, 1) := ⟨fun _ => aW_t 227 (by decide +kernel) (by decide +kernel), fun h => absurd rfl h⟩
theorem bcl_13 : bCok bBM (9, 3, 0, 1) := ⟨fun _ => aW_t 40 (by decide +kernel) (by decide +kernel), fun h => absurd rfl h⟩
theorem bcl_14 : bCok bBM (10, 3, 0, 1) := ⟨fun _ => aW_t 32 (by decide +kernel) (by decide +kernel), fun h => absurd rfl h⟩
theorem bcl_15 : bCok bBM (10, 11, 9, 0) := ⟨fun h => absurd h (by decide), fun _ => Or.inr (aN_t 37 (by decide +kernel) (by decide +kernel))⟩
theorem bcl_16 : bCok bBM (10, 18, 5, 0) := ⟨fun h => absurd h (by decide), fun _ => Or.inl (aW_t 78 (by decide +kernel) (by decide +kernel))⟩
theorem bcl_17 : bCok bBM (10, 27, 6, 0) := ⟨fun h => absurd h (by decide), fun _ => Or.inl (aW_t 110 (by decide +kernel) (by decide +kernel))⟩
theorem bcl_18 : bCok bBM (10, 37, 4, 0) := ⟨fun h => absurd h (by decide), fun _ => Or.inr (aN_t 218 (by decide +kernel) (by decide +kernel))⟩
theorem bcl_19 : bCok bBM (10, 48, 2, 0) := ⟨fun h => absurd h (by decide), fun _ => Or.inl (aW_t 283 (by decide +kernel) (by decide +kernel))⟩
theorem bcl_20 : bCok bBM (10, 55, 8, 0) := ⟨fun h => absurd h (by decide), fun _ => Or.inr (aN_t 302 (by decide +kernel) (by decide +kernel))⟩
theorem bcl_21 : bCok bBM (10, 62, 3, 0) := ⟨fun h => absurd h (by decide), fun _ => Or.inr (aN_t 305 (by decide +kernel) (by decide +kernel))⟩
theorem bcl_22 : bCok bBM (10, 69, 7, 0) := ⟨fun h => absurd h (by decide), fun _ => Or.inr (aN_t 335 (by decide +kernel) (by decide +kernel))⟩
theorem bcl_23 : bCok bBM (11, 1, 0, 1) := ⟨fun _ => aW_t 1251 (by decide +kernel) (by decide +kernel), fun h => absurd rfl h⟩
theorem bcl_ok : ∀ q ∈ bcl, bCok bBM q := List.forall_mem_cons.mpr ⟨bcl_0, List.forall_mem_cons.mpr ⟨bcl_1, List.forall_mem_cons.mpr ⟨bcl_2, List.forall_mem_cons.mpr ⟨bcl_3, List.forall_mem_cons.mpr ⟨bcl_4, List.forall_mem_cons.mpr ⟨bcl_5, List.forall_mem_cons.mpr ⟨bcl_6, List.forall_mem_cons.mpr ⟨bcl_7, List.forall_mem_cons.mpr ⟨bcl_8, List.forall_mem_cons.mpr ⟨bcl_9, List.forall_mem_cons.mpr ⟨bcl_10, List.forall_mem_cons.mpr ⟨bcl_11, List.forall_mem_cons.mpr ⟨bcl_12, List.forall_mem_cons.mpr ⟨bcl_13, List.forall_mem_cons.mpr ⟨bcl_14, List.forall_mem_cons.mpr ⟨bcl_15, List.forall_mem_cons.mpr ⟨bcl_16, List.forall_mem_cons.mpr ⟨bcl_17, List.forall_mem_cons.mpr ⟨bcl_18, List.forall_mem_cons.mpr ⟨bcl_19, List.forall_mem_cons.mpr ⟨bcl_20, List.forall_mem_cons.mpr ⟨bcl_21, List.forall_mem_cons.mpr ⟨bcl_22, List.forall_mem_cons.mpr ⟨bcl_23, fun _ h => absurd h List.not_mem_nil⟩⟩⟩⟩⟩⟩⟩⟩⟩⟩⟩⟩⟩⟩⟩⟩⟩⟩⟩⟩⟩⟩⟩⟩
theorem bMok_0 : bMok 0 bM0 := ⟨by decide +kernel, rfl, rfl, ⟨by decide +kernel, by decide +kernel, by decide +kernel⟩, by decide, aW_t 118 (by decide +kernel) (by decide +kernel), aW_t 117 (by decide +kernel) (by decide +kernel), aW_t 8 (by decide +kernel) (by decide +kernel), by decide +kernel⟩
theorem bMok_1 : bMok 1 bM1 := ⟨by decide +kernel, rfl, rfl, ⟨by decide +kernel, by decide +kernel, by decide +kernel⟩, by decide, aW_t 86 (by decide +kernel) (by decide +kernel), aW_t 85 (by decide +kernel) (by decide +kernel), aW_t 6 (by decide +kernel) (by decide +kernel), by decide +kernel⟩
theorem bMok_2 : bMok 2 bM2 := ⟨by decide +kernel, rfl, rfl, ⟨by decide +kernel, by decide +kernel, by decide +kernel⟩, by decide, aW_t 285 (by decide +kernel) (by decide +kernel), aW_t 284 (by decide +kernel) (by decide +kernel), aW_t 11 (by decide +kernel) (by decide +kernel), by decide +kernel⟩
theorem bMok_3 : bMok 3 bM3 := ⟨by decide +kernel, rfl, rfl, ⟨by decide +kernel, by decide +kernel, by decide +kernel⟩, by decide, aW_t 307 (by decide +kernel) (by decide +kernel), aW_t 306 (by decide +kernel) (by decide +kernel), aW_t 12 (by decide +kernel) (by decide +kernel), by decide +kernel⟩
theorem bMok_4 : bMok 4 bM4 := ⟨by decide +kernel, rfl, rfl, ⟨by decide +kernel, by decide +kernel, by decide +kernel⟩, by decide, aW_t 220 (by decide +kernel) (by decide +kernel), aW_t 219 (by decide +kernel) (by decide +kernel), aW_t 9 (by decide +kernel) (by decide +kernel), by decide +kernel⟩
theorem bMok_5 : bMok 5 bM5 := ⟨by decide +kernel, rfl, rfl, ⟨by decide +kernel, by decide +kernel, by decide +kernel⟩, by decide, aW_t 80 (by decide +kernel) (by decide +kernel), aW_t 79 (by decide +kernel) (by decide +kernel), aW_t 5 (by decide +kernel) (by decide +kernel), by decide +kernel⟩
theorem bMok_6 : bMok 6 bM6 := ⟨by decide +kernel, rfl, rfl, ⟨by decide +kernel, by decide +kernel, by decide +kernel⟩, by decide, aW_t 112 (by decide +kernel) (by decide +kernel), aW_t 111 (by decide +kernel) (by decide +kernel), aW_t 7 (by decide +kernel) (by decide +kernel), by decide +kernel⟩
theorem bMok_7 : bMok 7 bM7 := ⟨by decide +kernel, rfl, rfl, ⟨by decide +kernel, by decide +kernel, by decide +kernel⟩, by decide, aW_t 337 (by decide +kernel) (by decide +kernel), aW_t 336 (by decide +kernel) (by decide +kernel), aW_t 13 (by decide +kernel) (by decide +kernel), by decide +kernel⟩
theorem bMok_8 : bMok 8 bM8 := ⟨by decide +kernel, rfl, rfl, ⟨by decide +kernel, by decide +kernel, by decide +kernel⟩, by decide, aW_t 226 (by decide +kernel) (by decide +kernel), aW_t 225 (by decide +kernel) (by decide +kernel), aW_t 10 (by decide +kernel) (by decide +kernel), by decide +kernel⟩
theorem bMok_9 : bMok 9 bM9 := ⟨by decide +kernel, rfl, rfl, ⟨by decide +kernel, by decide +kernel, by decide +kernel⟩, by decide, aW_t 39 (by decide +kernel) (by decide +kernel), aW_t 38 (by decide +kernel) (by decide +kernel), aW_t 2 (by decide +kernel) (by decide +kernel), by decide +kernel⟩
theorem bcl_B : ∀ q ∈ bcl, q.2.2.2 ≠ 1 → bMok q.2.2.1 (bBM q.2.2.1) := List.forall_mem_cons.mpr ⟨fun h => absurd rfl h, List.forall_mem_cons.mpr ⟨fun h => absurd rfl h, List.forall_mem_cons.mpr ⟨fun h => absurd rfl h, List.forall_mem_cons.mpr ⟨fun _ => bMok_8, List.forall_mem_cons.mpr ⟨fun h => absurd rfl h, List.forall_mem_cons.mpr ⟨fun h => absurd rfl h, List.forall_mem_cons.mpr ⟨fun _ => bMok_8, List.forall_mem_cons.mpr ⟨fun h => absurd rfl h, List.forall_mem_cons.mpr ⟨fun _ => bMok_1, List.forall_mem_cons.mpr ⟨fun h => absurd rfl h, List.forall_mem_cons.mpr ⟨fun _ => bMok_0, List.forall_mem_cons.mpr ⟨fun h => absurd rfl h, List.forall_mem_cons.mpr ⟨fun h => absurd rfl h, List.forall_mem_cons.mpr ⟨fun h => absurd rfl h, List.forall_mem_cons.mpr ⟨fun h => absurd rfl h, List.forall_mem_cons.mpr ⟨fun _ => bMok_9, List.forall_mem_cons.mpr ⟨fun _ => bMok_5, List.forall_mem_cons.mpr ⟨fun _ => bMok_6, List.forall_mem_cons.mpr ⟨fun _ => bMok_4, List.forall_mem_cons.mpr ⟨fun _ => bMok_2, List.forall_mem_cons.mpr ⟨fun _ => bMok_8, List.forall_mem_cons.mpr ⟨fun _ => bMok_3, List.forall_mem_cons.mpr ⟨fun _ => bMok_7, List.forall_mem_cons.mpr ⟨fun h => absurd rfl h, fun _ h => absurd h List.not_mem_nil⟩⟩⟩⟩⟩⟩⟩⟩⟩⟩⟩⟩⟩⟩⟩⟩⟩⟩⟩⟩⟩⟩⟩⟩
theorem bI_ok : ∀ ci, bIok ci := by
  intro ci r h
  match ci, h with
  | 0, h => cases h; exact ⟨aW_t 115 (by decide +kernel) (by decide +kernel), aW_t 8 (by decide +kernel) (by decide +kernel)⟩
  | 1, h => cases h; exact ⟨aW_t 83 (by decide +kernel) (by decide +kernel), aW_t 6 (by decide +kernel) (by decide +kernel)⟩
  | 2, h => cases h; exact ⟨aW_t 282 (by decide +kernel) (by decide +kernel), aW_t 11 (by decide +kernel) (by decide +kernel)⟩
  | 3, h => cases h; exact ⟨aW_t 304 (by decide +kernel) (by decide +kernel), aW_t 12 (by decide +kernel) (by decide +kernel)⟩
  | 4, h => cases h; exact ⟨aW_t 217 (by decide +kernel) (by decide +kernel), aW_t 9 (by decide +kernel) (by decide +kernel)⟩
  | 5, h => cases h; exact ⟨aW_t 77 (by decide +kernel) (by decide +kernel), aW_t 5 (by decide +kernel) (by decide +kernel)⟩
  | 6, h => cases h; exact ⟨aW_t 109 (by decide +kernel) (by decide +kernel), aW_t 7 (by decide +kernel) (by decide +kernel)⟩
  | 7, h => cases h; exact ⟨aW_t 334 (by decide +kernel) (by decide +kernel), aW_t 13 (by decide +kernel) (by decide +kernel)⟩
  | 8, h => cases h; exact ⟨aW_t 223 (by decide +kernel) (by decide +kernel), aW_t 10 (by decide +kernel) (by decide +kernel)⟩
  | 9, h => cases h; exact ⟨aW_t 36 (by decide +kernel) (by decide +kernel), aW_t 2 (by decide +kernel) (by decide +kernel)⟩
  | 10, h => cases h; exact ⟨aW_t 28 (by decide +kernel) (by decide +kernel), aW_t 1 (by decide +kernel) (by decide +kernel)⟩
  | 11, h => cases h; exact ⟨aW_t 1247 (by decide +kernel) (by decide +kernel), aW_t 15 (by decide +kernel) (by decide +kernel)⟩
  | n + 12, h => cases h
def S0XI : List (Nat × Nat × Int32) := [(6, 12, 3), (17, 0, 1), (23, 12, 3), (34, 0, 1)]
def S0XR : List (Nat × Nat × Nat) := [(0, 2, 6), (0, 3, 23), (1, 4, 2000)]
def S0X : aS := (fun i k => ((S0XI.find? fun q => Nat.beq q.1 i && Nat.beq q.2.1 k).map fun q => q.2.2).getD 0, fun _ _ => 0, fun i k => ((S0XR.find? fun q => Nat.beq q.1 i && Nat.beq q.2.1 k).map fun q => q.2.2).getD 0, fun _ _ => 0, fun _ _ => 0)
def S0MI : List (Nat × Nat × Int32) := []
def S0MR : List (Nat × Nat × Nat) := []
def S0M : aS := (fun i k => ((S0MI.find? fun q => Nat.beq q.1 i && Nat.beq q.2.1 k).map fun q => q.2.2).getD 0, fun _ _ => 0, fun i k => ((S0MR.find? fun q => Nat.beq q.1 i && Nat.beq q.2.1 k).map fun q => q.2.2).getD 0, fun _ _ => 0, fun _ _ => 0)
def afn (S : aS) (i : Nat) (q : Nat × Nat) : Value := match q.1 with
  | 0 => .int (gi S i q.2)
  | 1 => .int (gi S i q.2)
  | 2 => .long (gl S i q.2)
  | 3 => .ref (art i q.2)
  | _ => .ref (gr S i q.2)
def bCe (S : aS) (i : Nat) : bC := (akd i, cond (Nat.blt (akd i) 20) 0 (aln i), cond (Nat.blt (akd i) 20) ((aft (akd i)).zipIdx.map (afn S i)) (cond (Nat.ble 4 (akd i % 10)) ((List.range (aln i)).map fun k => .ref (ara i k)) []))
def bCs (o n : Nat) (S : aS) : List bC := (List.range n).map fun i => bCe S (o + i)
def bEq (r : Option bS) (S : bS) : Bool := match r with
  | some R => decide (R.1 = S.1) && (decide (R.2.1 = S.2.1) && (decide (R.2.2.1 = S.2.2.1) && (Nat.beq R.2.2.2.1 S.2.2.2.1 && Nat.beq R.2.2.2.2 S.2.2.2.2)))
  | none => false
theorem bEq_ok {r : Option bS} {S : bS} (h : bEq r S = true) : r = some S := by
  unfold bEq at h
  split at h
  · rename_i R
    simp only [Bool.and_eq_true, decide_eq_true_eq] at h
    obtain ⟨h1, h2, h3, h4, h5⟩ := h
    obtain ⟨a, b, c, d, e⟩ := R
    obtain ⟨a', b', c', d', e'⟩ := S
    have h4 := Nat.eq_of_beq_eq_true h4
    have h5 := Nat.eq_of_beq_eq_true h5
    dsimp only at h1 h2 h3 h4 h5
    rw [h1, h2, h3, h4, h5]
  · cases h
set_option maxRecDepth 1000000 in
theorem runX : bst 0 20 bnl bcl bBM 2000 6 10 0 ([some (.ref 0), none], [], [(10, 0, (aft 10).map bDf)], 0, 0) = some ([some (.ref 0), some (.int 4)], [], bCs 0 152 S0X, 151, 5874) := bEq_ok (by decide +kernel)
set_option maxRecDepth 1000000 in
theorem runM : bst 1000 30 bnl bcl bBM 2000 6 11 0 ([some (.ref 1000)], [], [(11, 0, (aft 11).map bDf)], 0, 0) = some ([some (.ref 1000)], [], bCs 1000 41 S0M, 40, 5276) := bEq_ok (by decide +kernel)
end
section
/-! what the constructors made is a state of the small machine -/
theorem afn_atv (ad : Nat → Nat) (S : aS) (i : Nat) (q : Nat × Nat) : atv ad (afn S i q) = afv ad S i q := by
  obtain ⟨t, k⟩ := q
  match t with
  | 0 => rfl
  | 1 => rfl
  | 2 => rfl
  | 3 => rfl
  | n + 4 => rfl
theorem vp_cell_refs {cA : ClassId} {n : Nat} {f g : Nat → Option Nat} (h : ∀ j, j < n → f j = g j) : vp_cell cA (n, .inr (.inr (.inr (.inr f)))) = vp_cell cA (n, .inr (.inr (.inr (.inr g)))) := by
  rw [vp_cell_q, vp_cell_q]
  unfold arrV
  congr 2
  funext j
  show va_rf (f j.val) = va_rf (g j.val)
  rw [h j.val j.isLt]
theorem bCe_at {ad : Nat → Nat} {cy : Nat → ClassId} {D : va_G} {S : aS} {i : Nat} {H : Heap} (h1 : S.2.2.2.1 i = fun _ => 0) (h2 : S.2.2.2.2 i = fun _ => 0) : va_at D vwCl (ad i, bE ad cy (bCe S i)) H → va_at D vwCl (ad i, ace ad cy S i) H := by
  intro h
  unfold bCe at h
  unfold bE at h
  unfold ace
  dsimp only at h
  cases hk : Nat.blt (akd i) 20 with
  | true =>
    rw [hk] at h
    simp only [cond_true] at h ⊢
    rw [List.map_map] at h
    have he : (atv ad ∘ afn S i) = afv ad S i := by
      funext q
      exact afn_atv ad S i q
    rw [he] at h
    exact h
  | false =>
    rw [hk] at h
    simp only [cond_false] at h ⊢
    have h : H[ad i]? = some (vp_cell (cy (akd i % 10)) (aln i, bRw ad (akd i, aln i, cond (Nat.ble 4 (akd i % 10)) ((List.range (aln i)).map fun k => .ref (ara i k)) []))) := h
    show H[ad i]? = some (vp_cell (cy (akd i % 10)) (aln i, arw ad S i))
    rw [h]
    congr 1
    unfold bRw arw
    dsimp only
    have hrow : ∀ j, j < aln i → bOp ad (((List.range (aln i)).map fun k => Value.ref (ara i k)).getD j .null) = some (ad (ara i j)) := by
      intro j hj
      rw [List.getD_eq_getElem?_getD, List.getElem?_map, List.getElem?_range hj]
      rfl
    rcases Nat.lt_or_ge (akd i % 10) 4 with z | z
    · have : akd i % 10 = 0 ∨ akd i % 10 = 1 ∨ akd i % 10 = 2 ∨ akd i % 10 = 3 := by omega
      rcases this with z | z | z | z <;> simp only [z] <;> first | rw [h1] | rw [h2]
    · rw [Nat.ble_eq_true_of_le z]
      simp only [cond_true]
      have : akd i % 10 = 4 ∨ akd i % 10 = 5 ∨ akd i % 10 = 6 ∨ akd i % 10 = 7 ∨ akd i % 10 = 8 ∨ akd i % 10 = 9 := by omega
      rcases this with z | z | z | z | z | z <;> simp only [z] <;> first | exact vp_cell_refs hrow | rw [h1]
theorem bW_aws {ad : Nat → Nat} {cy : Nat → ClassId} {D : va_G} {S : aS} {o n : Nat} {H : Heap} (h1 : S.2.2.2.1 = fun _ _ => 0) (h2 : S.2.2.2.2 = fun _ _ => 0) (h : va_P D vwCl (bW ad cy o (bCs o n S)) H) : va_P D vwCl (aws ad cy ((List.range n).map fun i => o + i) S) H := by
  intro k q hq
  unfold aws at hq
  rw [List.getElem?_map, List.getElem?_map] at hq
  cases hk : (List.range n)[k]? with
  | none => rw [hk] at hq; cases hq
  | some i =>
    rw [hk] at hq
    cases hq
    obtain ⟨hlt, hi⟩ := List.getElem?_eq_some_iff.mp hk
    rw [List.getElem_range] at hi
    subst hi
    have hc : (bCs o n S)[k]? = some (bCe S (o + k)) := by
      unfold bCs
      rw [List.getElem?_map, hk]
      rfl
    exact bCe_at (by rw [h1]) (by rw [h2]) (h k _ (bW_get hc))
theorem bW_inj {ad : Nat → Nat} {cy : Nat → ClassId} {A : Nat → Prop} {S : aS} {o n : Nat} (h : va_D A (bW ad cy o (bCs o n S))) : (∀ i, i < n → A (ad (o + i))) ∧ ∀ i j, i < n → j < n → ad (o + i) = ad (o + j) → i = j := by
  have hc : ∀ k, k < n → (bCs o n S)[k]? = some (bCe S (o + k)) := by
    intro k hk
    unfold bCs
    rw [List.getElem?_map, List.getElem?_range hk]
    rfl
  constructor
  · intro i hi
    exact h.2 i _ (bW_get (hc i hi))
  · intro i j hi hj e
    exact h.1 i j _ _ (bW_get (hc i hi)) (bW_get (hc j hj)) e
/-- the cells of the class, of the reference -/
def idX : List Nat := (List.range 152).map fun i => 0 + i
def idM : List Nat := (List.range 41).map fun i => 1000 + i
theorem akd_big {i : Nat} (h : 1041 ≤ i) : akd i = 99 := by
  have hb : ∀ K, K < 1041 → Nat.ble i K = false := by
    intro K hK
    apply Bool.eq_false_iff.mpr
    intro z
    have := Nat.le_of_ble_eq_true z
    omega
  unfold akd
  simp [hb]
theorem akd_X : ∀ i, i < 1041 → rkX (akd i) = true → i < 152 := by decide +kernel
theorem akd_M : ∀ i, i < 1041 → rkM (akd i) = true → 1000 ≤ i := by decide +kernel
theorem regX : ∀ i k, akd i = k → rkX k = true → i ∈ idX := by
  intro i k h1 h2
  subst h1
  have hi : i < 1041 := by
    rcases Nat.lt_or_ge i 1041 with z | z
    · exact z
    · rw [akd_big z] at h2; cases h2
  have := akd_X i hi h2
  exact List.mem_map.mpr ⟨i, List.mem_range.mpr this, by omega⟩
theorem regM : ∀ i k, akd i = k → rkM k = true → i ∈ idM := by
  intro i k h1 h2
  subst h1
  have hi : i < 1041 := by
    rcases Nat.lt_or_ge i 1041 with z | z
    · exact z
    · rw [akd_big z] at h2; cases h2
  have := akd_M i hi h2
  exact List.mem_map.mpr ⟨i - 1000, List.mem_range.mpr (by omega), by omega⟩
theorem idX_nd : idX.Nodup := by decide +kernel
theorem idM_nd : idM.Nodup := by decide +kernel
end
section
/-! calls out of a method that has cells of its own beside -/
theorem aRoom {z d L : Nat} (h : z ≤ 100) (h2 : 120 * (d + 6) ≤ L) : 8 + (z + 11) + 120 * (d + 5) ≤ L := by
  have h3 : 120 * (d + 6) = 120 * (d + 5) + 120 := Nat.mul_succ 120 (d + 5)
  rw [h3] at h2
  refine Nat.le_trans ?_ h2
  rw [Nat.add_comm]
  exact Nat.add_le_add_left (Nat.le_trans (Nat.add_le_add_left (Nat.add_le_add_right h 11) 8) (by decide)) _
section
variable {p : Program} {l : Launch} {e : Env} {R : Room} {s : State} {m : MethodId} {args : Array Value} {below : List Frame} {meth : Method} {c : Code} {cc : ByteArray} {nL : Nat} {own : String} {ad : Nat → Nat} {cy : Nat → ClassId} {D : va_G} {ids : List Nat} {A A0 : Nat → Prop} {Zc : State → Prop} {Qs : State → Prop} {pc cells slots : Nat} {B : Array Slot} {H : Heap} {locs : List Loc}
theorem rc_run {Q : Value → aS → Prop} {a' : Array Value} {st0 rest : List Value} (hr : va_Run p l e R s m args below meth c H locs cells slots 0 0 (F0 m pc B st0) rest (aQc ad cy D ids A Q a') A) (hS : va_S A0 s.heap H locs) (hA : ∀ q, A q → A0 q)
    (kk : ∀ (v : Value) (S' : aS) (H1 : Heap) (locs1 : List Loc), Q v S' → va_P D vwCl (aws ad cy ids S') H1 → (∀ q : Nat, q < H.size → ¬ A q → H1[q]? = H[q]?) → H.size ≤ H1.size → va_S A0 s.heap H1 locs1 → W p l e R s m args below meth c H1 locs1 cells slots Qs (F0 m (pc + 3) B ((aro ad v).toList ++ rest))) : W p l e R s m args below meth c H locs cells slots Qs (F0 m pc B st0) := by
  intro T hT X
  obtain ⟨v, st₀, t, T', L, h0, X', hL, e1, e2, ⟨⟨v1, S1, hv, hq, hp⟩, hz, hk⟩, stp⟩ := hr T hT X
  cases hv
  rw [h0] at hz hk
  obtain ⟨t2, a1, b1⟩ := kk v1 S1 T'.heap (locs ++ L) hq (by rw [e1]; exact hp) (fun q h1 h2 => by rw [e1]; exact hk q h1 h2) (by rw [e1]; exact hz)
    ⟨Nat.le_trans hS.1 (by rw [e1]; exact hz), fun q h1 h2 => by rw [e1, hk q (Nat.lt_of_lt_of_le h1 hS.1) (fun z => h2 (hA q z))]; exact hS.2.1 q h1 h2, fun q hq => by
      rcases List.mem_append.mp hq with h | h
      · exact hS.2.2 q h
      · exact hA _ (hL q h)⟩ T' rfl X'
  exact ⟨t2, stp t2 a1, b1⟩
variable {MI : Nat → aMI} {d : Nat}
theorem rc_callV (X : CallFix p m c cc nL s args aWS own) (hnw : ∀ w ∈ aNW, va_Nw w s) (hK : va_K D vwCl (atys cy) s) (hzo : aZok A Zc) (hZ : ∀ U : State, U.heap = H → s.WarmedH U.vm → Zc U) {j i : Nat} {rest : List Value} {S : aS} {Q : Value → aS → Prop} {b0 : Nat} {As : List Value} (hj : aMok (MI j)) (hk : (MI j).2.2.2.2.2.1 ≠ 99) (hl : Cond.methodLink own i (MI j).1 ∈ aWS) (hn : As.length = (MI j).2.2.2.2.2.2.1) (hb0 : akd b0 = (MI j).2.2.2.2.2.1) (hreg : b0 ∈ ids)
    (hfr : d + 6 ≤ R.frames) (hlo : 120 * (d + 6) ≤ R.locals) (hce : cells ≤ R.cells) (hsl : slots ≤ R.slots) (hM : aMet l ad cy D ids A Zc MI d j (.ref b0 :: As) S Q) (hd : decode cc pc = .ok (.invokevirtual i, 3)) (hcs : acs rest ≤ 8) (hsz : B.size = nL) (hP : va_P D vwCl (aws ad cy ids S) H) (hS : va_S A0 s.heap H locs) (hA : ∀ q, A q → A0 q)
    (kk : ∀ (v : Value) (S' : aS) (H1 : Heap) (locs1 : List Loc), Q v S' → va_P D vwCl (aws ad cy ids S') H1 → (∀ q : Nat, q < H.size → ¬ A q → H1[q]? = H[q]?) → H.size ≤ H1.size → va_S A0 s.heap H1 locs1 → W p l e R s m args below meth c H1 locs1 cells slots Qs (F0 m (pc + 3) B ((aro ad v).toList ++ rest.map (atv ad)))) :
    W p l e R s m args below meth c H locs cells slots Qs (F0 m pc B ((As.map (atv ad)).reverse ++ .ref (ad b0) :: rest.map (atv ad))) := by
  have hts := X.2.2.2.2
  obtain ⟨h1, h2, h3, h4, h5, h6, h7, h8, h9⟩ := hj
  rcases h9 with h9 | ⟨-, ⟨r, hr1, hr2⟩, h10, h11⟩
  · exact absurd h9.1 hk
  obtain ⟨q0, g1, g2⟩ := aws_at (ad := ad) (cy := cy) (S := S) hreg
  have hlt : (MI j).2.2.2.2.2.1 < 12 := (List.getElem?_eq_some_iff.mp hr1).1
  rw [ace_obj hb0 (Nat.ble_eq_true_of_le (by omega))] at g2
  have hrv := va_recv hK hP hr1 g2
  rw [hr2] at hrv
  refine rc_run (va_runV (As := As.map (atv ad)) (rest := rest.map (atv ad)) (Ts := aWS) X hM (cwV (MI j).2.2.2.2.2.2.1 hts (aGood h7 (fun w hw => ?_)) rfl rfl rfl ⟨rfl, h3, h4, h5⟩ ⟨hfr, aRoom h6 hlo⟩) ⟨aPc_blind hzo, hrv, fun U hU hW => ⟨rfl, by rw [hU]; exact hP, va_K.moved hW.alike hK, aNW_warm hW hnw, hZ U hU hW⟩⟩ rfl (by rw [List.length_map]; exact hn) hsz rfl (lv_room (by rw [acs_map]; exact hcs)) hd ⟨hce, hsl⟩) hS hA kk
  rcases List.mem_cons.mp hw with z | hw
  · rw [z]; exact hl
  · rcases List.mem_cons.mp hw with z | hw
    · rw [z]; exact h10
    · rcases List.mem_cons.mp hw with z | hw
      · rw [z]; exact h11
      · rcases List.mem_cons.mp hw with z | hw
        · rw [z]; exact h8
        · cases hw
end
/-! the constants stay where they are -/
theorem aZX_ag {lim : Nat} {ad ad' : Nat → Nat} {A : Nat → Prop} {U : State} (h : bAg lim ad ad') (hz : aZX ad A U) : aZX ad' A U := by
  have g : ∀ n, 2000 ≤ n → ad n = ad' n := fun n hn => (h n (Or.inr hn)).symm
  obtain ⟨⟨h1, h2, h3, h4, h5, h6⟩, h7⟩ := hz
  refine ⟨⟨fun i hi => ?_, ?_, ?_, fun i g1 g2 => ?_, h5, h6⟩, fun q hq => ?_⟩
  · rw [← g (2000 + i) (by omega), ← g (2200 + i) (by omega)]
    exact h1 i hi
  · rw [← g 2100 (by decide)]
    refine ⟨h2.1, ?_⟩
    rw [show (fun j => Value.ref (ad' (2000 + j))) = fun j => Value.ref (ad (2000 + j)) from by funext j; rw [g (2000 + j) (by omega)]]
    exact h2.2
  · rw [← g 2101 (by decide)]
    exact h3
  · rw [← g i (by omega), ← g (i + 200) (by omega)]
    exact h4 i g1 g2
  · have : 2000 ≤ q.2.2.1 := by
      have key : ∀ q ∈ ldcL, 2000 ≤ q.2.2.1 := by decide +kernel
      exact key q hq
    rw [← g _ this]
    exact h7 q hq
end
