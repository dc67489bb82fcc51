section
-- ===== PART A: goes FIRST, ahead of the names: the tables' words, and 'selects' of the private methods out of them =====
/-- a private method of a class that the tables say can be made, by its rows of tables_1 -/
def lw_okq (q : MethodName × Nat) : Prop := (q.1.cls ≠ "java/lang/invoke/MethodHandle" ∧ q.1.cls ≠ "java/lang/invoke/VarHandle") ∧ Cond.instantiable q.1.cls q.2 ∈ tables_1 ∧ Cond.privateMethod q.1 ∈ tables_1 ∧ Cond.instanceMethod q.1 ∈ tables_1
theorem lw_p0 : lw_okq (⟨"FoldedRealm$Tokens", "isLetter", "(I)Z"⟩, 8) := ⟨⟨by decide +kernel, by decide +kernel⟩, List.mem_of_getElem? (i := 36) (by decide +kernel), List.mem_of_getElem? (i := 424) (by decide +kernel), List.mem_of_getElem? (i := 425) (by decide +kernel)⟩
theorem lw_p1 : lw_okq (⟨"FoldedRealm$Tokens", "takeLetters", "()V"⟩, 8) := ⟨⟨by decide +kernel, by decide +kernel⟩, List.mem_of_getElem? (i := 36) (by decide +kernel), List.mem_of_getElem? (i := 428) (by decide +kernel), List.mem_of_getElem? (i := 429) (by decide +kernel)⟩
theorem lw_p2 : lw_okq (⟨"FoldedRealm$Tokens", "isDigit", "(I)Z"⟩, 8) := ⟨⟨by decide +kernel, by decide +kernel⟩, List.mem_of_getElem? (i := 36) (by decide +kernel), List.mem_of_getElem? (i := 433) (by decide +kernel), List.mem_of_getElem? (i := 434) (by decide +kernel)⟩
theorem lw_p3 : lw_okq (⟨"FoldedRealm$Tokens", "takeDigits", "()V"⟩, 8) := ⟨⟨by decide +kernel, by decide +kernel⟩, List.mem_of_getElem? (i := 36) (by decide +kernel), List.mem_of_getElem? (i := 437) (by decide +kernel), List.mem_of_getElem? (i := 438) (by decide +kernel)⟩
theorem lw_p4 : lw_okq (⟨"FoldedRealm$Tokens", "sortTaken", "()LFoldedRealm$Sort;"⟩, 8) := ⟨⟨by decide +kernel, by decide +kernel⟩, List.mem_of_getElem? (i := 36) (by decide +kernel), List.mem_of_getElem? (i := 441) (by decide +kernel), List.mem_of_getElem? (i := 442) (by decide +kernel)⟩
theorem lw_p5 : lw_okq (⟨"FoldedRealm$Reader", "readWriter", "(LFoldedRealm$Realm;)Z"⟩, 4) := ⟨⟨by decide +kernel, by decide +kernel⟩, List.mem_of_getElem? (i := 77) (by decide +kernel), List.mem_of_getElem? (i := 518) (by decide +kernel), List.mem_of_getElem? (i := 519) (by decide +kernel)⟩
theorem lw_p6 : lw_okq (⟨"FoldedRealm$Reader", "isNewName", "(LFoldedRealm$Realm;)Z"⟩, 4) := ⟨⟨by decide +kernel, by decide +kernel⟩, List.mem_of_getElem? (i := 77) (by decide +kernel), List.mem_of_getElem? (i := 527) (by decide +kernel), List.mem_of_getElem? (i := 528) (by decide +kernel)⟩
theorem lw_p7 : lw_okq (⟨"FoldedRealm$Reader", "kindTold", "()I"⟩, 4) := ⟨⟨by decide +kernel, by decide +kernel⟩, List.mem_of_getElem? (i := 77) (by decide +kernel), List.mem_of_getElem? (i := 540) (by decide +kernel), List.mem_of_getElem? (i := 541) (by decide +kernel)⟩
theorem lw_p8 : lw_okq (⟨"FoldedRealm$Reader", "readWord", "(LFoldedRealm$Realm;)Z"⟩, 4) := ⟨⟨by decide +kernel, by decide +kernel⟩, List.mem_of_getElem? (i := 77) (by decide +kernel), List.mem_of_getElem? (i := 544) (by decide +kernel), List.mem_of_getElem? (i := 545) (by decide +kernel)⟩
theorem lw_p9 : lw_okq (⟨"FoldedRealm$Reader", "readEntry", "(LFoldedRealm$Sort;I[II)Z"⟩, 4) := ⟨⟨by decide +kernel, by decide +kernel⟩, List.mem_of_getElem? (i := 77) (by decide +kernel), List.mem_of_getElem? (i := 550) (by decide +kernel), List.mem_of_getElem? (i := 551) (by decide +kernel)⟩
theorem lw_p10 : lw_okq (⟨"FoldedRealm$Reader", "isNumber", "(II)Z"⟩, 4) := ⟨⟨by decide +kernel, by decide +kernel⟩, List.mem_of_getElem? (i := 77) (by decide +kernel), List.mem_of_getElem? (i := 554) (by decide +kernel), List.mem_of_getElem? (i := 555) (by decide +kernel)⟩
theorem lw_p11 : lw_okq (⟨"FoldedRealm$Reader", "readLikes", "(LFoldedRealm$Realm;)Z"⟩, 4) := ⟨⟨by decide +kernel, by decide +kernel⟩, List.mem_of_getElem? (i := 77) (by decide +kernel), List.mem_of_getElem? (i := 565) (by decide +kernel), List.mem_of_getElem? (i := 566) (by decide +kernel)⟩
theorem lw_p12 : lw_okq (⟨"FoldedRealm$Reader", "failAtName", "()Z"⟩, 4) := ⟨⟨by decide +kernel, by decide +kernel⟩, List.mem_of_getElem? (i := 77) (by decide +kernel), List.mem_of_getElem? (i := 569) (by decide +kernel), List.mem_of_getElem? (i := 570) (by decide +kernel)⟩
theorem lw_p13 : lw_okq (⟨"FoldedRealm$Reader", "readClash", "(LFoldedRealm$Realm;)Z"⟩, 4) := ⟨⟨by decide +kernel, by decide +kernel⟩, List.mem_of_getElem? (i := 77) (by decide +kernel), List.mem_of_getElem? (i := 589) (by decide +kernel), List.mem_of_getElem? (i := 590) (by decide +kernel)⟩
theorem lw_p14 : lw_okq (⟨"FoldedRealm$Reader", "readFolds", "(LFoldedRealm$Realm;)Z"⟩, 4) := ⟨⟨by decide +kernel, by decide +kernel⟩, List.mem_of_getElem? (i := 77) (by decide +kernel), List.mem_of_getElem? (i := 601) (by decide +kernel), List.mem_of_getElem? (i := 602) (by decide +kernel)⟩
theorem lw_p15 : lw_okq (⟨"FoldedRealm$Reader", "readFormula", "(LFoldedRealm$Realm;LFoldedRealm$Formula;)Z"⟩, 4) := ⟨⟨by decide +kernel, by decide +kernel⟩, List.mem_of_getElem? (i := 77) (by decide +kernel), List.mem_of_getElem? (i := 605) (by decide +kernel), List.mem_of_getElem? (i := 606) (by decide +kernel)⟩
def lw_privs_1 : List (MethodName × Nat) := [(⟨"FoldedRealm$Tokens", "isLetter", "(I)Z"⟩, 8), (⟨"FoldedRealm$Tokens", "takeLetters", "()V"⟩, 8), (⟨"FoldedRealm$Tokens", "isDigit", "(I)Z"⟩, 8), (⟨"FoldedRealm$Tokens", "takeDigits", "()V"⟩, 8), (⟨"FoldedRealm$Tokens", "sortTaken", "()LFoldedRealm$Sort;"⟩, 8), (⟨"FoldedRealm$Reader", "readWriter", "(LFoldedRealm$Realm;)Z"⟩, 4), (⟨"FoldedRealm$Reader", "isNewName", "(LFoldedRealm$Realm;)Z"⟩, 4), (⟨"FoldedRealm$Reader", "kindTold", "()I"⟩, 4), (⟨"FoldedRealm$Reader", "readWord", "(LFoldedRealm$Realm;)Z"⟩, 4), (⟨"FoldedRealm$Reader", "readEntry", "(LFoldedRealm$Sort;I[II)Z"⟩, 4), (⟨"FoldedRealm$Reader", "isNumber", "(II)Z"⟩, 4), (⟨"FoldedRealm$Reader", "readLikes", "(LFoldedRealm$Realm;)Z"⟩, 4), (⟨"FoldedRealm$Reader", "failAtName", "()Z"⟩, 4), (⟨"FoldedRealm$Reader", "readClash", "(LFoldedRealm$Realm;)Z"⟩, 4), (⟨"FoldedRealm$Reader", "readFolds", "(LFoldedRealm$Realm;)Z"⟩, 4), (⟨"FoldedRealm$Reader", "readFormula", "(LFoldedRealm$Realm;LFoldedRealm$Formula;)Z"⟩, 4)]
theorem lw_r1 : ∀ q ∈ lw_privs_1, lw_okq q := List.forall_mem_cons.mpr ⟨lw_p0, List.forall_mem_cons.mpr ⟨lw_p1, List.forall_mem_cons.mpr ⟨lw_p2, List.forall_mem_cons.mpr ⟨lw_p3, List.forall_mem_cons.mpr ⟨lw_p4, List.forall_mem_cons.mpr ⟨lw_p5, List.forall_mem_cons.mpr ⟨lw_p6, List.forall_mem_cons.mpr ⟨lw_p7, List.forall_mem_cons.mpr ⟨lw_p8, List.forall_mem_cons.mpr ⟨lw_p9, List.forall_mem_cons.mpr ⟨lw_p10, List.forall_mem_cons.mpr ⟨lw_p11, List.forall_mem_cons.mpr ⟨lw_p12, List.forall_mem_cons.mpr ⟨lw_p13, List.forall_mem_cons.mpr ⟨lw_p14, List.forall_mem_cons.mpr ⟨lw_p15, fun _ h => absurd h List.not_mem_nil⟩⟩⟩⟩⟩⟩⟩⟩⟩⟩⟩⟩⟩⟩⟩⟩
theorem lw_p16 : lw_okq (⟨"FoldedRealm$FormulaReader", "readTest", "(LFoldedRealm$Formula;I)Z"⟩, 1) := ⟨⟨by decide +kernel, by decide +kernel⟩, List.mem_of_getElem? (i := 83) (by decide +kernel), List.mem_of_getElem? (i := 624) (by decide +kernel), List.mem_of_getElem? (i := 625) (by decide +kernel)⟩
theorem lw_p17 : lw_okq (⟨"FoldedRealm$FormulaReader", "readSum", "(LFoldedRealm$Formula;I)Z"⟩, 1) := ⟨⟨by decide +kernel, by decide +kernel⟩, List.mem_of_getElem? (i := 83) (by decide +kernel), List.mem_of_getElem? (i := 628) (by decide +kernel), List.mem_of_getElem? (i := 629) (by decide +kernel)⟩
theorem lw_p18 : lw_okq (⟨"FoldedRealm$FormulaReader", "readProduct", "(LFoldedRealm$Formula;I)Z"⟩, 1) := ⟨⟨by decide +kernel, by decide +kernel⟩, List.mem_of_getElem? (i := 83) (by decide +kernel), List.mem_of_getElem? (i := 632) (by decide +kernel), List.mem_of_getElem? (i := 633) (by decide +kernel)⟩
theorem lw_p19 : lw_okq (⟨"FoldedRealm$FormulaReader", "readPart", "(LFoldedRealm$Formula;I)Z"⟩, 1) := ⟨⟨by decide +kernel, by decide +kernel⟩, List.mem_of_getElem? (i := 83) (by decide +kernel), List.mem_of_getElem? (i := 636) (by decide +kernel), List.mem_of_getElem? (i := 637) (by decide +kernel)⟩
theorem lw_p20 : lw_okq (⟨"FoldedRealm$FormulaReader", "factTold", "(Z)I"⟩, 1) := ⟨⟨by decide +kernel, by decide +kernel⟩, List.mem_of_getElem? (i := 83) (by decide +kernel), List.mem_of_getElem? (i := 640) (by decide +kernel), List.mem_of_getElem? (i := 641) (by decide +kernel)⟩
theorem lw_p21 : lw_okq (⟨"FoldedRealm$FormulaReader", "factOfWrites", "()I"⟩, 1) := ⟨⟨by decide +kernel, by decide +kernel⟩, List.mem_of_getElem? (i := 83) (by decide +kernel), List.mem_of_getElem? (i := 646) (by decide +kernel), List.mem_of_getElem? (i := 647) (by decide +kernel)⟩
theorem lw_p22 : lw_okq (⟨"FoldedRealm$FormulaReader", "factOfDoes", "()I"⟩, 1) := ⟨⟨by decide +kernel, by decide +kernel⟩, List.mem_of_getElem? (i := 83) (by decide +kernel), List.mem_of_getElem? (i := 656) (by decide +kernel), List.mem_of_getElem? (i := 657) (by decide +kernel)⟩
theorem lw_p23 : lw_okq (⟨"FoldedRealm$FormulaReader", "readToClose", "(LFoldedRealm$Formula;I)Z"⟩, 1) := ⟨⟨by decide +kernel, by decide +kernel⟩, List.mem_of_getElem? (i := 83) (by decide +kernel), List.mem_of_getElem? (i := 679) (by decide +kernel), List.mem_of_getElem? (i := 680) (by decide +kernel)⟩
theorem lw_p24 : lw_okq (⟨"FoldedRealm$Reader", "readSundayLine", "(LFoldedRealm$Realm;)Z"⟩, 4) := ⟨⟨by decide +kernel, by decide +kernel⟩, List.mem_of_getElem? (i := 77) (by decide +kernel), List.mem_of_getElem? (i := 723) (by decide +kernel), List.mem_of_getElem? (i := 724) (by decide +kernel)⟩
theorem lw_p25 : lw_okq (⟨"FoldedRealm", "likelyNow", "(I)I"⟩, 12) := ⟨⟨by decide +kernel, by decide +kernel⟩, List.mem_of_getElem? (i := 28) (by decide +kernel), List.mem_of_getElem? (i := 757) (by decide +kernel), List.mem_of_getElem? (i := 758) (by decide +kernel)⟩
theorem lw_p26 : lw_okq (⟨"FoldedRealm$Formula", "factAt", "(I)I"⟩, 6) := ⟨⟨by decide +kernel, by decide +kernel⟩, List.mem_of_getElem? (i := 115) (by decide +kernel), List.mem_of_getElem? (i := 805) (by decide +kernel), List.mem_of_getElem? (i := 806) (by decide +kernel)⟩
theorem lw_p27 : lw_okq (⟨"FoldedRealm$Standing", "putOnSpike", "()V"⟩, 7) := ⟨⟨by decide +kernel, by decide +kernel⟩, List.mem_of_getElem? (i := 223) (by decide +kernel), List.mem_of_getElem? (i := 873) (by decide +kernel), List.mem_of_getElem? (i := 874) (by decide +kernel)⟩
theorem lw_p28 : lw_okq (⟨"FoldedRealm$Standing", "closeGap", "(I)V"⟩, 7) := ⟨⟨by decide +kernel, by decide +kernel⟩, List.mem_of_getElem? (i := 223) (by decide +kernel), List.mem_of_getElem? (i := 877) (by decide +kernel), List.mem_of_getElem? (i := 878) (by decide +kernel)⟩
theorem lw_p29 : lw_okq (⟨"FoldedRealm$Standing", "areClashing", "(LFoldedRealm$Realm;II)Z"⟩, 7) := ⟨⟨by decide +kernel, by decide +kernel⟩, List.mem_of_getElem? (i := 223) (by decide +kernel), List.mem_of_getElem? (i := 945) (by decide +kernel), List.mem_of_getElem? (i := 946) (by decide +kernel)⟩
theorem lw_p30 : lw_okq (⟨"FoldedRealm$Odds", "extend", "(LFoldedRealm$Realm;IIJJ)V"⟩, 7) := ⟨⟨by decide +kernel, by decide +kernel⟩, List.mem_of_getElem? (i := 304) (by decide +kernel), List.mem_of_getElem? (i := 994) (by decide +kernel), List.mem_of_getElem? (i := 995) (by decide +kernel)⟩
theorem lw_p31 : lw_okq (⟨"FoldedRealm$Odds", "keepRow", "(JJ)V"⟩, 7) := ⟨⟨by decide +kernel, by decide +kernel⟩, List.mem_of_getElem? (i := 304) (by decide +kernel), List.mem_of_getElem? (i := 998) (by decide +kernel), List.mem_of_getElem? (i := 999) (by decide +kernel)⟩
def lw_privs_2 : List (MethodName × Nat) := [(⟨"FoldedRealm$FormulaReader", "readTest", "(LFoldedRealm$Formula;I)Z"⟩, 1), (⟨"FoldedRealm$FormulaReader", "readSum", "(LFoldedRealm$Formula;I)Z"⟩, 1), (⟨"FoldedRealm$FormulaReader", "readProduct", "(LFoldedRealm$Formula;I)Z"⟩, 1), (⟨"FoldedRealm$FormulaReader", "readPart", "(LFoldedRealm$Formula;I)Z"⟩, 1), (⟨"FoldedRealm$FormulaReader", "factTold", "(Z)I"⟩, 1), (⟨"FoldedRealm$FormulaReader", "factOfWrites", "()I"⟩, 1), (⟨"FoldedRealm$FormulaReader", "factOfDoes", "()I"⟩, 1), (⟨"FoldedRealm$FormulaReader", "readToClose", "(LFoldedRealm$Formula;I)Z"⟩, 1), (⟨"FoldedRealm$Reader", "readSundayLine", "(LFoldedRealm$Realm;)Z"⟩, 4), (⟨"FoldedRealm", "likelyNow", "(I)I"⟩, 12), (⟨"FoldedRealm$Formula", "factAt", "(I)I"⟩, 6), (⟨"FoldedRealm$Standing", "putOnSpike", "()V"⟩, 7), (⟨"FoldedRealm$Standing", "closeGap", "(I)V"⟩, 7), (⟨"FoldedRealm$Standing", "areClashing", "(LFoldedRealm$Realm;II)Z"⟩, 7), (⟨"FoldedRealm$Odds", "extend", "(LFoldedRealm$Realm;IIJJ)V"⟩, 7), (⟨"FoldedRealm$Odds", "keepRow", "(JJ)V"⟩, 7)]
theorem lw_r2 : ∀ q ∈ lw_privs_2, lw_okq q := List.forall_mem_cons.mpr ⟨lw_p16, List.forall_mem_cons.mpr ⟨lw_p17, List.forall_mem_cons.mpr ⟨lw_p18, List.forall_mem_cons.mpr ⟨lw_p19, List.forall_mem_cons.mpr ⟨lw_p20, List.forall_mem_cons.mpr ⟨lw_p21, List.forall_mem_cons.mpr ⟨lw_p22, List.forall_mem_cons.mpr ⟨lw_p23, List.forall_mem_cons.mpr ⟨lw_p24, List.forall_mem_cons.mpr ⟨lw_p25, List.forall_mem_cons.mpr ⟨lw_p26, List.forall_mem_cons.mpr ⟨lw_p27, List.forall_mem_cons.mpr ⟨lw_p28, List.forall_mem_cons.mpr ⟨lw_p29, List.forall_mem_cons.mpr ⟨lw_p30, List.forall_mem_cons.mpr ⟨lw_p31, fun _ h => absurd h List.not_mem_nil⟩⟩⟩⟩⟩⟩⟩⟩⟩⟩⟩⟩⟩⟩⟩⟩
theorem lw_p32 : lw_okq (⟨"FoldedRealm$Odds", "hasRow", "(I)Z"⟩, 7) := ⟨⟨by decide +kernel, by decide +kernel⟩, List.mem_of_getElem? (i := 304) (by decide +kernel), List.mem_of_getElem? (i := 1011) (by decide +kernel), List.mem_of_getElem? (i := 1012) (by decide +kernel)⟩
theorem lw_p33 : lw_okq (⟨"FoldedRealm$Shares", "empty", "()V"⟩, 1) := ⟨⟨by decide +kernel, by decide +kernel⟩, List.mem_of_getElem? (i := 334) (by decide +kernel), List.mem_of_getElem? (i := 1037) (by decide +kernel), List.mem_of_getElem? (i := 1038) (by decide +kernel)⟩
theorem lw_p34 : lw_okq (⟨"FoldedRealm$Shares", "flow", "(LFoldedRealm$Realm;LFoldedRealm$Odds;I)V"⟩, 1) := ⟨⟨by decide +kernel, by decide +kernel⟩, List.mem_of_getElem? (i := 334) (by decide +kernel), List.mem_of_getElem? (i := 1043) (by decide +kernel), List.mem_of_getElem? (i := 1044) (by decide +kernel)⟩
theorem lw_p35 : lw_okq (⟨"FoldedRealm$Shares", "share", "(LFoldedRealm$Realm;LFoldedRealm$Odds;III)V"⟩, 1) := ⟨⟨by decide +kernel, by decide +kernel⟩, List.mem_of_getElem? (i := 334) (by decide +kernel), List.mem_of_getElem? (i := 1051) (by decide +kernel), List.mem_of_getElem? (i := 1052) (by decide +kernel)⟩
theorem lw_p36 : lw_okq (⟨"FoldedRealm", "sharedBy", "(II)I"⟩, 12) := ⟨⟨by decide +kernel, by decide +kernel⟩, List.mem_of_getElem? (i := 28) (by decide +kernel), List.mem_of_getElem? (i := 1067) (by decide +kernel), List.mem_of_getElem? (i := 1068) (by decide +kernel)⟩
theorem lw_p37 : lw_okq (⟨"FoldedRealm$Shares", "keepAlone", "(LFoldedRealm$Realm;II)V"⟩, 1) := ⟨⟨by decide +kernel, by decide +kernel⟩, List.mem_of_getElem? (i := 334) (by decide +kernel), List.mem_of_getElem? (i := 1075) (by decide +kernel), List.mem_of_getElem? (i := 1076) (by decide +kernel)⟩
theorem lw_p38 : lw_okq (⟨"FoldedRealm", "isPeaceWithout", "(I)Z"⟩, 12) := ⟨⟨by decide +kernel, by decide +kernel⟩, List.mem_of_getElem? (i := 28) (by decide +kernel), List.mem_of_getElem? (i := 1100) (by decide +kernel), List.mem_of_getElem? (i := 1101) (by decide +kernel)⟩
theorem lw_p39 : lw_okq (⟨"FoldedRealm", "likeliestBy", "(II)I"⟩, 12) := ⟨⟨by decide +kernel, by decide +kernel⟩, List.mem_of_getElem? (i := 28) (by decide +kernel), List.mem_of_getElem? (i := 1122) (by decide +kernel), List.mem_of_getElem? (i := 1123) (by decide +kernel)⟩
theorem lw_p40 : lw_okq (⟨"java/lang/Throwable", "fillInStackTrace", "(I)Ljava/lang/Throwable;"⟩, 6) := ⟨⟨by decide +kernel, by decide +kernel⟩, List.mem_of_getElem? (i := 1214) (by decide +kernel), List.mem_of_getElem? (i := 1212) (by decide +kernel), List.mem_of_getElem? (i := 1213) (by decide +kernel)⟩
theorem lw_p41 : lw_okq (⟨"FoldedRealmModel", "fresh", "()V"⟩, 63) := ⟨⟨by decide +kernel, by decide +kernel⟩, List.mem_of_getElem? (i := 1247) (by decide +kernel), List.mem_of_getElem? (i := 1253) (by decide +kernel), List.mem_of_getElem? (i := 1254) (by decide +kernel)⟩
theorem lw_p42 : lw_okq (⟨"FoldedRealmModel", "readsAll", "()Z"⟩, 63) := ⟨⟨by decide +kernel, by decide +kernel⟩, List.mem_of_getElem? (i := 1247) (by decide +kernel), List.mem_of_getElem? (i := 1461) (by decide +kernel), List.mem_of_getElem? (i := 1462) (by decide +kernel)⟩
theorem lw_p43 : lw_okq (⟨"FoldedRealmModel", "begins", "()V"⟩, 63) := ⟨⟨by decide +kernel, by decide +kernel⟩, List.mem_of_getElem? (i := 1247) (by decide +kernel), List.mem_of_getElem? (i := 1465) (by decide +kernel), List.mem_of_getElem? (i := 1466) (by decide +kernel)⟩
theorem lw_p44 : lw_okq (⟨"FoldedRealmModel", "nextToken", "()V"⟩, 63) := ⟨⟨by decide +kernel, by decide +kernel⟩, List.mem_of_getElem? (i := 1247) (by decide +kernel), List.mem_of_getElem? (i := 1469) (by decide +kernel), List.mem_of_getElem? (i := 1470) (by decide +kernel)⟩
theorem lw_p45 : lw_okq (⟨"FoldedRealmModel", "signAt", "(I)I"⟩, 63) := ⟨⟨by decide +kernel, by decide +kernel⟩, List.mem_of_getElem? (i := 1247) (by decide +kernel), List.mem_of_getElem? (i := 1473) (by decide +kernel), List.mem_of_getElem? (i := 1474) (by decide +kernel)⟩
theorem lw_p46 : lw_okq (⟨"FoldedRealmModel", "isWord", "(J)Z"⟩, 63) := ⟨⟨by decide +kernel, by decide +kernel⟩, List.mem_of_getElem? (i := 1247) (by decide +kernel), List.mem_of_getElem? (i := 1480) (by decide +kernel), List.mem_of_getElem? (i := 1481) (by decide +kernel)⟩
theorem lw_p47 : lw_okq (⟨"FoldedRealmModel", "readsWriter", "()Z"⟩, 63) := ⟨⟨by decide +kernel, by decide +kernel⟩, List.mem_of_getElem? (i := 1247) (by decide +kernel), List.mem_of_getElem? (i := 1484) (by decide +kernel), List.mem_of_getElem? (i := 1485) (by decide +kernel)⟩
def lw_privs_3 : List (MethodName × Nat) := [(⟨"FoldedRealm$Odds", "hasRow", "(I)Z"⟩, 7), (⟨"FoldedRealm$Shares", "empty", "()V"⟩, 1), (⟨"FoldedRealm$Shares", "flow", "(LFoldedRealm$Realm;LFoldedRealm$Odds;I)V"⟩, 1), (⟨"FoldedRealm$Shares", "share", "(LFoldedRealm$Realm;LFoldedRealm$Odds;III)V"⟩, 1), (⟨"FoldedRealm", "sharedBy", "(II)I"⟩, 12), (⟨"FoldedRealm$Shares", "keepAlone", "(LFoldedRealm$Realm;II)V"⟩, 1), (⟨"FoldedRealm", "isPeaceWithout", "(I)Z"⟩, 12), (⟨"FoldedRealm", "likeliestBy", "(II)I"⟩, 12), (⟨"java/lang/Throwable", "fillInStackTrace", "(I)Ljava/lang/Throwable;"⟩, 6), (⟨"FoldedRealmModel", "fresh", "()V"⟩, 63), (⟨"FoldedRealmModel", "readsAll", "()Z"⟩, 63), (⟨"FoldedRealmModel", "begins", "()V"⟩, 63), (⟨"FoldedRealmModel", "nextToken", "()V"⟩, 63), (⟨"FoldedRealmModel", "signAt", "(I)I"⟩, 63), (⟨"FoldedRealmModel", "isWord", "(J)Z"⟩, 63), (⟨"FoldedRealmModel", "readsWriter", "()Z"⟩, 63)]
theorem lw_r3 : ∀ q ∈ lw_privs_3, lw_okq q := List.forall_mem_cons.mpr ⟨lw_p32, List.forall_mem_cons.mpr ⟨lw_p33, List.forall_mem_cons.mpr ⟨lw_p34, List.forall_mem_cons.mpr ⟨lw_p35, List.forall_mem_cons.mpr ⟨lw_p36, List.forall_mem_cons.mpr ⟨lw_p37, List.forall_mem_cons.mpr ⟨lw_p38, List.forall_mem_cons.mpr ⟨lw_p39, List.forall_mem_cons.mpr ⟨lw_p40, List.forall_mem_cons.mpr ⟨lw_p41, List.forall_mem_cons.mpr ⟨lw_p42, List.forall_mem_cons.mpr ⟨lw_p43, List.forall_mem_cons.mpr ⟨lw_p44, List.forall_mem_cons.mpr ⟨lw_p45, List.forall_mem_cons.mpr ⟨lw_p46, List.forall_mem_cons.mpr ⟨lw_p47, fun _ h => absurd h List.not_mem_nil⟩⟩⟩⟩⟩⟩⟩⟩⟩⟩⟩⟩⟩⟩⟩⟩
theorem lw_p48 : lw_okq (⟨"FoldedRealmModel", "fails", "(I)Z"⟩, 63) := ⟨⟨by decide +kernel, by decide +kernel⟩, List.mem_of_getElem? (i := 1247) (by decide +kernel), List.mem_of_getElem? (i := 1488) (by decide +kernel), List.mem_of_getElem? (i := 1489) (by decide +kernel)⟩
theorem lw_p49 : lw_okq (⟨"FoldedRealmModel", "needsNew", "()Z"⟩, 63) := ⟨⟨by decide +kernel, by decide +kernel⟩, List.mem_of_getElem? (i := 1247) (by decide +kernel), List.mem_of_getElem? (i := 1492) (by decide +kernel), List.mem_of_getElem? (i := 1493) (by decide +kernel)⟩
theorem lw_p50 : lw_okq (⟨"FoldedRealmModel", "isKept", "()Z"⟩, 63) := ⟨⟨by decide +kernel, by decide +kernel⟩, List.mem_of_getElem? (i := 1247) (by decide +kernel), List.mem_of_getElem? (i := 1496) (by decide +kernel), List.mem_of_getElem? (i := 1497) (by decide +kernel)⟩
theorem lw_p51 : lw_okq (⟨"FoldedRealmModel", "writerNamed", "()I"⟩, 63) := ⟨⟨by decide +kernel, by decide +kernel⟩, List.mem_of_getElem? (i := 1247) (by decide +kernel), List.mem_of_getElem? (i := 1520) (by decide +kernel), List.mem_of_getElem? (i := 1521) (by decide +kernel)⟩
theorem lw_p52 : lw_okq (⟨"FoldedRealmModel", "wordNamed", "(I)I"⟩, 63) := ⟨⟨by decide +kernel, by decide +kernel⟩, List.mem_of_getElem? (i := 1247) (by decide +kernel), List.mem_of_getElem? (i := 1524) (by decide +kernel), List.mem_of_getElem? (i := 1525) (by decide +kernel)⟩
theorem lw_p53 : lw_okq (⟨"FoldedRealmModel", "closes", "()Z"⟩, 63) := ⟨⟨by decide +kernel, by decide +kernel⟩, List.mem_of_getElem? (i := 1247) (by decide +kernel), List.mem_of_getElem? (i := 1528) (by decide +kernel), List.mem_of_getElem? (i := 1529) (by decide +kernel)⟩
theorem lw_p54 : lw_okq (⟨"FoldedRealmModel", "isSign", "(I)Z"⟩, 63) := ⟨⟨by decide +kernel, by decide +kernel⟩, List.mem_of_getElem? (i := 1247) (by decide +kernel), List.mem_of_getElem? (i := 1532) (by decide +kernel), List.mem_of_getElem? (i := 1533) (by decide +kernel)⟩
theorem lw_p55 : lw_okq (⟨"FoldedRealmModel", "readsWord", "()Z"⟩, 63) := ⟨⟨by decide +kernel, by decide +kernel⟩, List.mem_of_getElem? (i := 1247) (by decide +kernel), List.mem_of_getElem? (i := 1536) (by decide +kernel), List.mem_of_getElem? (i := 1537) (by decide +kernel)⟩
theorem lw_p56 : lw_okq (⟨"FoldedRealmModel", "needsBoth", "(JII)Z"⟩, 63) := ⟨⟨by decide +kernel, by decide +kernel⟩, List.mem_of_getElem? (i := 1247) (by decide +kernel), List.mem_of_getElem? (i := 1540) (by decide +kernel), List.mem_of_getElem? (i := 1541) (by decide +kernel)⟩
theorem lw_p57 : lw_okq (⟨"FoldedRealmModel", "needsNumber", "(II)Z"⟩, 63) := ⟨⟨by decide +kernel, by decide +kernel⟩, List.mem_of_getElem? (i := 1247) (by decide +kernel), List.mem_of_getElem? (i := 1544) (by decide +kernel), List.mem_of_getElem? (i := 1545) (by decide +kernel)⟩
theorem lw_p58 : lw_okq (⟨"FoldedRealmModel", "readsLikes", "()Z"⟩, 63) := ⟨⟨by decide +kernel, by decide +kernel⟩, List.mem_of_getElem? (i := 1247) (by decide +kernel), List.mem_of_getElem? (i := 1551) (by decide +kernel), List.mem_of_getElem? (i := 1552) (by decide +kernel)⟩
theorem lw_p59 : lw_okq (⟨"FoldedRealmModel", "needsToldWord", "(I)Z"⟩, 63) := ⟨⟨by decide +kernel, by decide +kernel⟩, List.mem_of_getElem? (i := 1247) (by decide +kernel), List.mem_of_getElem? (i := 1555) (by decide +kernel), List.mem_of_getElem? (i := 1556) (by decide +kernel)⟩
theorem lw_p60 : lw_okq (⟨"FoldedRealmModel", "readsClash", "()Z"⟩, 63) := ⟨⟨by decide +kernel, by decide +kernel⟩, List.mem_of_getElem? (i := 1247) (by decide +kernel), List.mem_of_getElem? (i := 1559) (by decide +kernel), List.mem_of_getElem? (i := 1560) (by decide +kernel)⟩
theorem lw_p61 : lw_okq (⟨"FoldedRealmModel", "readsFolds", "()Z"⟩, 63) := ⟨⟨by decide +kernel, by decide +kernel⟩, List.mem_of_getElem? (i := 1247) (by decide +kernel), List.mem_of_getElem? (i := 1563) (by decide +kernel), List.mem_of_getElem? (i := 1564) (by decide +kernel)⟩
theorem lw_p62 : lw_okq (⟨"FoldedRealmModel", "readsLaw", "(I)Z"⟩, 63) := ⟨⟨by decide +kernel, by decide +kernel⟩, List.mem_of_getElem? (i := 1247) (by decide +kernel), List.mem_of_getElem? (i := 1567) (by decide +kernel), List.mem_of_getElem? (i := 1568) (by decide +kernel)⟩
theorem lw_p63 : lw_okq (⟨"FoldedRealmModel", "reads", "()Z"⟩, 63) := ⟨⟨by decide +kernel, by decide +kernel⟩, List.mem_of_getElem? (i := 1247) (by decide +kernel), List.mem_of_getElem? (i := 1571) (by decide +kernel), List.mem_of_getElem? (i := 1572) (by decide +kernel)⟩
def lw_privs_4 : List (MethodName × Nat) := [(⟨"FoldedRealmModel", "fails", "(I)Z"⟩, 63), (⟨"FoldedRealmModel", "needsNew", "()Z"⟩, 63), (⟨"FoldedRealmModel", "isKept", "()Z"⟩, 63), (⟨"FoldedRealmModel", "writerNamed", "()I"⟩, 63), (⟨"FoldedRealmModel", "wordNamed", "(I)I"⟩, 63), (⟨"FoldedRealmModel", "closes", "()Z"⟩, 63), (⟨"FoldedRealmModel", "isSign", "(I)Z"⟩, 63), (⟨"FoldedRealmModel", "readsWord", "()Z"⟩, 63), (⟨"FoldedRealmModel", "needsBoth", "(JII)Z"⟩, 63), (⟨"FoldedRealmModel", "needsNumber", "(II)Z"⟩, 63), (⟨"FoldedRealmModel", "readsLikes", "()Z"⟩, 63), (⟨"FoldedRealmModel", "needsToldWord", "(I)Z"⟩, 63), (⟨"FoldedRealmModel", "readsClash", "()Z"⟩, 63), (⟨"FoldedRealmModel", "readsFolds", "()Z"⟩, 63), (⟨"FoldedRealmModel", "readsLaw", "(I)Z"⟩, 63), (⟨"FoldedRealmModel", "reads", "()Z"⟩, 63)]
theorem lw_r4 : ∀ q ∈ lw_privs_4, lw_okq q := List.forall_mem_cons.mpr ⟨lw_p48, List.forall_mem_cons.mpr ⟨lw_p49, List.forall_mem_cons.mpr ⟨lw_p50, List.forall_mem_cons.mpr ⟨lw_p51, List.forall_mem_cons.mpr ⟨lw_p52, List.forall_mem_cons.mpr ⟨lw_p53, List.forall_mem_cons.mpr ⟨lw_p54, List.forall_mem_cons.mpr ⟨lw_p55, List.forall_mem_cons.mpr ⟨lw_p56, List.forall_mem_cons.mpr ⟨lw_p57, List.forall_mem_cons.mpr ⟨lw_p58, List.forall_mem_cons.mpr ⟨lw_p59, List.forall_mem_cons.mpr ⟨lw_p60, List.forall_mem_cons.mpr ⟨lw_p61, List.forall_mem_cons.mpr ⟨lw_p62, List.forall_mem_cons.mpr ⟨lw_p63, fun _ h => absurd h List.not_mem_nil⟩⟩⟩⟩⟩⟩⟩⟩⟩⟩⟩⟩⟩⟩⟩⟩
theorem lw_p64 : lw_okq (⟨"FoldedRealmModel", "fact", "()I"⟩, 63) := ⟨⟨by decide +kernel, by decide +kernel⟩, List.mem_of_getElem? (i := 1247) (by decide +kernel), List.mem_of_getElem? (i := 1575) (by decide +kernel), List.mem_of_getElem? (i := 1576) (by decide +kernel)⟩
theorem lw_p65 : lw_okq (⟨"FoldedRealmModel", "puts", "(I)V"⟩, 63) := ⟨⟨by decide +kernel, by decide +kernel⟩, List.mem_of_getElem? (i := 1247) (by decide +kernel), List.mem_of_getElem? (i := 1587) (by decide +kernel), List.mem_of_getElem? (i := 1588) (by decide +kernel)⟩
theorem lw_p66 : lw_okq (⟨"FoldedRealmModel", "lays", "()V"⟩, 63) := ⟨⟨by decide +kernel, by decide +kernel⟩, List.mem_of_getElem? (i := 1247) (by decide +kernel), List.mem_of_getElem? (i := 1591) (by decide +kernel), List.mem_of_getElem? (i := 1592) (by decide +kernel)⟩
theorem lw_p67 : lw_okq (⟨"FoldedRealmModel", "readsLine", "()Z"⟩, 63) := ⟨⟨by decide +kernel, by decide +kernel⟩, List.mem_of_getElem? (i := 1247) (by decide +kernel), List.mem_of_getElem? (i := 1602) (by decide +kernel), List.mem_of_getElem? (i := 1603) (by decide +kernel)⟩
theorem lw_p68 : lw_okq (⟨"FoldedRealmModel", "laysLines", "(II)V"⟩, 63) := ⟨⟨by decide +kernel, by decide +kernel⟩, List.mem_of_getElem? (i := 1247) (by decide +kernel), List.mem_of_getElem? (i := 1606) (by decide +kernel), List.mem_of_getElem? (i := 1607) (by decide +kernel)⟩
theorem lw_p69 : lw_okq (⟨"FoldedRealmModel", "isWriter", "(I)Z"⟩, 63) := ⟨⟨by decide +kernel, by decide +kernel⟩, List.mem_of_getElem? (i := 1247) (by decide +kernel), List.mem_of_getElem? (i := 1614) (by decide +kernel), List.mem_of_getElem? (i := 1615) (by decide +kernel)⟩
theorem lw_p70 : lw_okq (⟨"FoldedRealmModel", "isTold", "(I)Z"⟩, 63) := ⟨⟨by decide +kernel, by decide +kernel⟩, List.mem_of_getElem? (i := 1247) (by decide +kernel), List.mem_of_getElem? (i := 1622) (by decide +kernel), List.mem_of_getElem? (i := 1623) (by decide +kernel)⟩
theorem lw_p71 : lw_okq (⟨"FoldedRealmModel", "likelyNow", "(I)I"⟩, 63) := ⟨⟨by decide +kernel, by decide +kernel⟩, List.mem_of_getElem? (i := 1247) (by decide +kernel), List.mem_of_getElem? (i := 1626) (by decide +kernel), List.mem_of_getElem? (i := 1627) (by decide +kernel)⟩
theorem lw_p72 : lw_okq (⟨"FoldedRealmModel", "writerOf", "(II)I"⟩, 63) := ⟨⟨by decide +kernel, by decide +kernel⟩, List.mem_of_getElem? (i := 1247) (by decide +kernel), List.mem_of_getElem? (i := 1630) (by decide +kernel), List.mem_of_getElem? (i := 1631) (by decide +kernel)⟩
theorem lw_p73 : lw_okq (⟨"FoldedRealmModel", "aheadOf", "(I)I"⟩, 63) := ⟨⟨by decide +kernel, by decide +kernel⟩, List.mem_of_getElem? (i := 1247) (by decide +kernel), List.mem_of_getElem? (i := 1634) (by decide +kernel), List.mem_of_getElem? (i := 1635) (by decide +kernel)⟩
theorem lw_p74 : lw_okq (⟨"FoldedRealmModel", "likelyBy", "(III)I"⟩, 63) := ⟨⟨by decide +kernel, by decide +kernel⟩, List.mem_of_getElem? (i := 1247) (by decide +kernel), List.mem_of_getElem? (i := 1638) (by decide +kernel), List.mem_of_getElem? (i := 1639) (by decide +kernel)⟩
theorem lw_p75 : lw_okq (⟨"FoldedRealmModel", "worked", "(I)I"⟩, 63) := ⟨⟨by decide +kernel, by decide +kernel⟩, List.mem_of_getElem? (i := 1247) (by decide +kernel), List.mem_of_getElem? (i := 1642) (by decide +kernel), List.mem_of_getElem? (i := 1643) (by decide +kernel)⟩
theorem lw_p76 : lw_okq (⟨"FoldedRealmModel", "opens", "(I)V"⟩, 63) := ⟨⟨by decide +kernel, by decide +kernel⟩, List.mem_of_getElem? (i := 1247) (by decide +kernel), List.mem_of_getElem? (i := 1646) (by decide +kernel), List.mem_of_getElem? (i := 1647) (by decide +kernel)⟩
theorem lw_p77 : lw_okq (⟨"FoldedRealmModel", "sums", "(I)V"⟩, 63) := ⟨⟨by decide +kernel, by decide +kernel⟩, List.mem_of_getElem? (i := 1247) (by decide +kernel), List.mem_of_getElem? (i := 1650) (by decide +kernel), List.mem_of_getElem? (i := 1651) (by decide +kernel)⟩
theorem lw_p78 : lw_okq (⟨"FoldedRealmModel", "tests", "(I)V"⟩, 63) := ⟨⟨by decide +kernel, by decide +kernel⟩, List.mem_of_getElem? (i := 1247) (by decide +kernel), List.mem_of_getElem? (i := 1654) (by decide +kernel), List.mem_of_getElem? (i := 1655) (by decide +kernel)⟩
theorem lw_p79 : lw_okq (⟨"FoldedRealmModel", "canWrite", "(I)Z"⟩, 63) := ⟨⟨by decide +kernel, by decide +kernel⟩, List.mem_of_getElem? (i := 1247) (by decide +kernel), List.mem_of_getElem? (i := 1674) (by decide +kernel), List.mem_of_getElem? (i := 1675) (by decide +kernel)⟩
def lw_privs_5 : List (MethodName × Nat) := [(⟨"FoldedRealmModel", "fact", "()I"⟩, 63), (⟨"FoldedRealmModel", "puts", "(I)V"⟩, 63), (⟨"FoldedRealmModel", "lays", "()V"⟩, 63), (⟨"FoldedRealmModel", "readsLine", "()Z"⟩, 63), (⟨"FoldedRealmModel", "laysLines", "(II)V"⟩, 63), (⟨"FoldedRealmModel", "isWriter", "(I)Z"⟩, 63), (⟨"FoldedRealmModel", "isTold", "(I)Z"⟩, 63), (⟨"FoldedRealmModel", "likelyNow", "(I)I"⟩, 63), (⟨"FoldedRealmModel", "writerOf", "(II)I"⟩, 63), (⟨"FoldedRealmModel", "aheadOf", "(I)I"⟩, 63), (⟨"FoldedRealmModel", "likelyBy", "(III)I"⟩, 63), (⟨"FoldedRealmModel", "worked", "(I)I"⟩, 63), (⟨"FoldedRealmModel", "opens", "(I)V"⟩, 63), (⟨"FoldedRealmModel", "sums", "(I)V"⟩, 63), (⟨"FoldedRealmModel", "tests", "(I)V"⟩, 63), (⟨"FoldedRealmModel", "canWrite", "(I)Z"⟩, 63)]
theorem lw_r5 : ∀ q ∈ lw_privs_5, lw_okq q := List.forall_mem_cons.mpr ⟨lw_p64, List.forall_mem_cons.mpr ⟨lw_p65, List.forall_mem_cons.mpr ⟨lw_p66, List.forall_mem_cons.mpr ⟨lw_p67, List.forall_mem_cons.mpr ⟨lw_p68, List.forall_mem_cons.mpr ⟨lw_p69, List.forall_mem_cons.mpr ⟨lw_p70, List.forall_mem_cons.mpr ⟨lw_p71, List.forall_mem_cons.mpr ⟨lw_p72, List.forall_mem_cons.mpr ⟨lw_p73, List.forall_mem_cons.mpr ⟨lw_p74, List.forall_mem_cons.mpr ⟨lw_p75, List.forall_mem_cons.mpr ⟨lw_p76, List.forall_mem_cons.mpr ⟨lw_p77, List.forall_mem_cons.mpr ⟨lw_p78, List.forall_mem_cons.mpr ⟨lw_p79, fun _ h => absurd h List.not_mem_nil⟩⟩⟩⟩⟩⟩⟩⟩⟩⟩⟩⟩⟩⟩⟩⟩
theorem lw_p80 : lw_okq (⟨"FoldedRealmModel", "keeps", "()V"⟩, 63) := ⟨⟨by decide +kernel, by decide +kernel⟩, List.mem_of_getElem? (i := 1247) (by decide +kernel), List.mem_of_getElem? (i := 1678) (by decide +kernel), List.mem_of_getElem? (i := 1679) (by decide +kernel)⟩
theorem lw_p81 : lw_okq (⟨"FoldedRealmModel", "laysWord", "(I)V"⟩, 63) := ⟨⟨by decide +kernel, by decide +kernel⟩, List.mem_of_getElem? (i := 1247) (by decide +kernel), List.mem_of_getElem? (i := 1685) (by decide +kernel), List.mem_of_getElem? (i := 1686) (by decide +kernel)⟩
theorem lw_p82 : lw_okq (⟨"FoldedRealmModel", "ends", "()V"⟩, 63) := ⟨⟨by decide +kernel, by decide +kernel⟩, List.mem_of_getElem? (i := 1247) (by decide +kernel), List.mem_of_getElem? (i := 1689) (by decide +kernel), List.mem_of_getElem? (i := 1690) (by decide +kernel)⟩
theorem lw_p83 : lw_okq (⟨"FoldedRealmModel", "doesBy", "(II)I"⟩, 63) := ⟨⟨by decide +kernel, by decide +kernel⟩, List.mem_of_getElem? (i := 1247) (by decide +kernel), List.mem_of_getElem? (i := 1693) (by decide +kernel), List.mem_of_getElem? (i := 1694) (by decide +kernel)⟩
theorem lw_p84 : lw_okq (⟨"FoldedRealmModel", "fallsOff", "(I)V"⟩, 63) := ⟨⟨by decide +kernel, by decide +kernel⟩, List.mem_of_getElem? (i := 1247) (by decide +kernel), List.mem_of_getElem? (i := 1697) (by decide +kernel), List.mem_of_getElem? (i := 1698) (by decide +kernel)⟩
theorem lw_p85 : lw_okq (⟨"FoldedRealmModel", "canPass", "()Z"⟩, 63) := ⟨⟨by decide +kernel, by decide +kernel⟩, List.mem_of_getElem? (i := 1247) (by decide +kernel), List.mem_of_getElem? (i := 1705) (by decide +kernel), List.mem_of_getElem? (i := 1706) (by decide +kernel)⟩
theorem lw_p86 : lw_okq (⟨"FoldedRealmModel", "burns", "(I)V"⟩, 63) := ⟨⟨by decide +kernel, by decide +kernel⟩, List.mem_of_getElem? (i := 1247) (by decide +kernel), List.mem_of_getElem? (i := 1713) (by decide +kernel), List.mem_of_getElem? (i := 1714) (by decide +kernel)⟩
theorem lw_p87 : lw_okq (⟨"FoldedRealmModel", "goes", "(I)Z"⟩, 63) := ⟨⟨by decide +kernel, by decide +kernel⟩, List.mem_of_getElem? (i := 1247) (by decide +kernel), List.mem_of_getElem? (i := 1726) (by decide +kernel), List.mem_of_getElem? (i := 1727) (by decide +kernel)⟩
theorem lw_p88 : lw_okq (⟨"FoldedRealmModel", "doesLastClash", "()Z"⟩, 63) := ⟨⟨by decide +kernel, by decide +kernel⟩, List.mem_of_getElem? (i := 1247) (by decide +kernel), List.mem_of_getElem? (i := 1730) (by decide +kernel), List.mem_of_getElem? (i := 1731) (by decide +kernel)⟩
theorem lw_p89 : lw_okq (⟨"FoldedRealmModel", "doClash", "(II)Z"⟩, 63) := ⟨⟨by decide +kernel, by decide +kernel⟩, List.mem_of_getElem? (i := 1247) (by decide +kernel), List.mem_of_getElem? (i := 1734) (by decide +kernel), List.mem_of_getElem? (i := 1735) (by decide +kernel)⟩
theorem lw_p90 : lw_okq (⟨"FoldedRealmModel", "wordsOf", "(I)I"⟩, 63) := ⟨⟨by decide +kernel, by decide +kernel⟩, List.mem_of_getElem? (i := 1247) (by decide +kernel), List.mem_of_getElem? (i := 1738) (by decide +kernel), List.mem_of_getElem? (i := 1739) (by decide +kernel)⟩
theorem lw_p91 : lw_okq (⟨"FoldedRealmModel", "wordIn", "(II)I"⟩, 63) := ⟨⟨by decide +kernel, by decide +kernel⟩, List.mem_of_getElem? (i := 1247) (by decide +kernel), List.mem_of_getElem? (i := 1749) (by decide +kernel), List.mem_of_getElem? (i := 1750) (by decide +kernel)⟩
theorem lw_p92 : lw_okq (⟨"FoldedRealmModel", "goesOn", "(III)Z"⟩, 63) := ⟨⟨by decide +kernel, by decide +kernel⟩, List.mem_of_getElem? (i := 1247) (by decide +kernel), List.mem_of_getElem? (i := 1753) (by decide +kernel), List.mem_of_getElem? (i := 1754) (by decide +kernel)⟩
theorem lw_p93 : lw_okq (⟨"FoldedRealmModel", "allLikely", "(III)I"⟩, 63) := ⟨⟨by decide +kernel, by decide +kernel⟩, List.mem_of_getElem? (i := 1247) (by decide +kernel), List.mem_of_getElem? (i := 1757) (by decide +kernel), List.mem_of_getElem? (i := 1758) (by decide +kernel)⟩
theorem lw_p94 : lw_okq (⟨"FoldedRealmModel", "laysRows", "()V"⟩, 63) := ⟨⟨by decide +kernel, by decide +kernel⟩, List.mem_of_getElem? (i := 1247) (by decide +kernel), List.mem_of_getElem? (i := 1766) (by decide +kernel), List.mem_of_getElem? (i := 1767) (by decide +kernel)⟩
theorem lw_p95 : lw_okq (⟨"FoldedRealmModel", "rows", "(IIII)V"⟩, 63) := ⟨⟨by decide +kernel, by decide +kernel⟩, List.mem_of_getElem? (i := 1247) (by decide +kernel), List.mem_of_getElem? (i := 1770) (by decide +kernel), List.mem_of_getElem? (i := 1771) (by decide +kernel)⟩
def lw_privs_6 : List (MethodName × Nat) := [(⟨"FoldedRealmModel", "keeps", "()V"⟩, 63), (⟨"FoldedRealmModel", "laysWord", "(I)V"⟩, 63), (⟨"FoldedRealmModel", "ends", "()V"⟩, 63), (⟨"FoldedRealmModel", "doesBy", "(II)I"⟩, 63), (⟨"FoldedRealmModel", "fallsOff", "(I)V"⟩, 63), (⟨"FoldedRealmModel", "canPass", "()Z"⟩, 63), (⟨"FoldedRealmModel", "burns", "(I)V"⟩, 63), (⟨"FoldedRealmModel", "goes", "(I)Z"⟩, 63), (⟨"FoldedRealmModel", "doesLastClash", "()Z"⟩, 63), (⟨"FoldedRealmModel", "doClash", "(II)Z"⟩, 63), (⟨"FoldedRealmModel", "wordsOf", "(I)I"⟩, 63), (⟨"FoldedRealmModel", "wordIn", "(II)I"⟩, 63), (⟨"FoldedRealmModel", "goesOn", "(III)Z"⟩, 63), (⟨"FoldedRealmModel", "allLikely", "(III)I"⟩, 63), (⟨"FoldedRealmModel", "laysRows", "()V"⟩, 63), (⟨"FoldedRealmModel", "rows", "(IIII)V"⟩, 63)]
theorem lw_r6 : ∀ q ∈ lw_privs_6, lw_okq q := List.forall_mem_cons.mpr ⟨lw_p80, List.forall_mem_cons.mpr ⟨lw_p81, List.forall_mem_cons.mpr ⟨lw_p82, List.forall_mem_cons.mpr ⟨lw_p83, List.forall_mem_cons.mpr ⟨lw_p84, List.forall_mem_cons.mpr ⟨lw_p85, List.forall_mem_cons.mpr ⟨lw_p86, List.forall_mem_cons.mpr ⟨lw_p87, List.forall_mem_cons.mpr ⟨lw_p88, List.forall_mem_cons.mpr ⟨lw_p89, List.forall_mem_cons.mpr ⟨lw_p90, List.forall_mem_cons.mpr ⟨lw_p91, List.forall_mem_cons.mpr ⟨lw_p92, List.forall_mem_cons.mpr ⟨lw_p93, List.forall_mem_cons.mpr ⟨lw_p94, List.forall_mem_cons.mpr ⟨lw_p95, fun _ h => absurd h List.not_mem_nil⟩⟩⟩⟩⟩⟩⟩⟩⟩⟩⟩⟩⟩⟩⟩⟩
theorem lw_p96 : lw_okq (⟨"FoldedRealmModel", "endsRow", "(II)V"⟩, 63) := ⟨⟨by decide +kernel, by decide +kernel⟩, List.mem_of_getElem? (i := 1247) (by decide +kernel), List.mem_of_getElem? (i := 1774) (by decide +kernel), List.mem_of_getElem? (i := 1775) (by decide +kernel)⟩
theorem lw_p97 : lw_okq (⟨"FoldedRealmModel", "noneOnly", "()V"⟩, 63) := ⟨⟨by decide +kernel, by decide +kernel⟩, List.mem_of_getElem? (i := 1247) (by decide +kernel), List.mem_of_getElem? (i := 1791) (by decide +kernel), List.mem_of_getElem? (i := 1792) (by decide +kernel)⟩
theorem lw_p98 : lw_okq (⟨"FoldedRealmModel", "sharesOut", "(III)I"⟩, 63) := ⟨⟨by decide +kernel, by decide +kernel⟩, List.mem_of_getElem? (i := 1247) (by decide +kernel), List.mem_of_getElem? (i := 1796) (by decide +kernel), List.mem_of_getElem? (i := 1797) (by decide +kernel)⟩
theorem lw_p99 : lw_okq (⟨"FoldedRealmModel", "sharesFrom", "(IIII)V"⟩, 63) := ⟨⟨by decide +kernel, by decide +kernel⟩, List.mem_of_getElem? (i := 1247) (by decide +kernel), List.mem_of_getElem? (i := 1800) (by decide +kernel), List.mem_of_getElem? (i := 1801) (by decide +kernel)⟩
theorem lw_p100 : lw_okq (⟨"FoldedRealmModel", "goesOnAt", "(II)Z"⟩, 63) := ⟨⟨by decide +kernel, by decide +kernel⟩, List.mem_of_getElem? (i := 1247) (by decide +kernel), List.mem_of_getElem? (i := 1804) (by decide +kernel), List.mem_of_getElem? (i := 1805) (by decide +kernel)⟩
theorem lw_p101 : lw_okq (⟨"FoldedRealmModel", "allWholes", "()I"⟩, 63) := ⟨⟨by decide +kernel, by decide +kernel⟩, List.mem_of_getElem? (i := 1247) (by decide +kernel), List.mem_of_getElem? (i := 1816) (by decide +kernel), List.mem_of_getElem? (i := 1817) (by decide +kernel)⟩
theorem lw_p102 : lw_okq (⟨"FoldedRealmModel", "clashesOf", "(I)I"⟩, 63) := ⟨⟨by decide +kernel, by decide +kernel⟩, List.mem_of_getElem? (i := 1247) (by decide +kernel), List.mem_of_getElem? (i := 1820) (by decide +kernel), List.mem_of_getElem? (i := 1821) (by decide +kernel)⟩
theorem lw_p103 : lw_okq (⟨"FoldedRealmModel", "beganBy", "()I"⟩, 63) := ⟨⟨by decide +kernel, by decide +kernel⟩, List.mem_of_getElem? (i := 1247) (by decide +kernel), List.mem_of_getElem? (i := 1836) (by decide +kernel), List.mem_of_getElem? (i := 1837) (by decide +kernel)⟩
theorem lw_p104 : lw_okq (⟨"FoldedRealmModel", "laysOnly", "()Z"⟩, 63) := ⟨⟨by decide +kernel, by decide +kernel⟩, List.mem_of_getElem? (i := 1247) (by decide +kernel), List.mem_of_getElem? (i := 1840) (by decide +kernel), List.mem_of_getElem? (i := 1841) (by decide +kernel)⟩
theorem lw_p105 : lw_okq (⟨"FoldedRealmModel", "likeliest", "(II)I"⟩, 63) := ⟨⟨by decide +kernel, by decide +kernel⟩, List.mem_of_getElem? (i := 1247) (by decide +kernel), List.mem_of_getElem? (i := 1852) (by decide +kernel), List.mem_of_getElem? (i := 1853) (by decide +kernel)⟩
theorem lw_p106 : lw_okq (⟨"FoldedRealmModel", "livesWord", "()Z"⟩, 63) := ⟨⟨by decide +kernel, by decide +kernel⟩, List.mem_of_getElem? (i := 1247) (by decide +kernel), List.mem_of_getElem? (i := 1871) (by decide +kernel), List.mem_of_getElem? (i := 1872) (by decide +kernel)⟩
theorem lw_p107 : lw_okq (⟨"FoldedRealmModel", "draws", "(I)I"⟩, 63) := ⟨⟨by decide +kernel, by decide +kernel⟩, List.mem_of_getElem? (i := 1247) (by decide +kernel), List.mem_of_getElem? (i := 1875) (by decide +kernel), List.mem_of_getElem? (i := 1876) (by decide +kernel)⟩
theorem lw_p108 : lw_okq (⟨"FoldedRealmModel", "laysRead", "(II)V"⟩, 63) := ⟨⟨by decide +kernel, by decide +kernel⟩, List.mem_of_getElem? (i := 1247) (by decide +kernel), List.mem_of_getElem? (i := 1887) (by decide +kernel), List.mem_of_getElem? (i := 1888) (by decide +kernel)⟩
theorem lw_p109 : lw_okq (⟨"FoldedRealmModel", "allLeft", "()I"⟩, 63) := ⟨⟨by decide +kernel, by decide +kernel⟩, List.mem_of_getElem? (i := 1247) (by decide +kernel), List.mem_of_getElem? (i := 1895) (by decide +kernel), List.mem_of_getElem? (i := 1896) (by decide +kernel)⟩
def lw_privs_7 : List (MethodName × Nat) := [(⟨"FoldedRealmModel", "endsRow", "(II)V"⟩, 63), (⟨"FoldedRealmModel", "noneOnly", "()V"⟩, 63), (⟨"FoldedRealmModel", "sharesOut", "(III)I"⟩, 63), (⟨"FoldedRealmModel", "sharesFrom", "(IIII)V"⟩, 63), (⟨"FoldedRealmModel", "goesOnAt", "(II)Z"⟩, 63), (⟨"FoldedRealmModel", "allWholes", "()I"⟩, 63), (⟨"FoldedRealmModel", "clashesOf", "(I)I"⟩, 63), (⟨"FoldedRealmModel", "beganBy", "()I"⟩, 63), (⟨"FoldedRealmModel", "laysOnly", "()Z"⟩, 63), (⟨"FoldedRealmModel", "likeliest", "(II)I"⟩, 63), (⟨"FoldedRealmModel", "livesWord", "()Z"⟩, 63), (⟨"FoldedRealmModel", "draws", "(I)I"⟩, 63), (⟨"FoldedRealmModel", "laysRead", "(II)V"⟩, 63), (⟨"FoldedRealmModel", "allLeft", "()I"⟩, 63)]
theorem lw_r7 : ∀ q ∈ lw_privs_7, lw_okq q := List.forall_mem_cons.mpr ⟨lw_p96, List.forall_mem_cons.mpr ⟨lw_p97, List.forall_mem_cons.mpr ⟨lw_p98, List.forall_mem_cons.mpr ⟨lw_p99, List.forall_mem_cons.mpr ⟨lw_p100, List.forall_mem_cons.mpr ⟨lw_p101, List.forall_mem_cons.mpr ⟨lw_p102, List.forall_mem_cons.mpr ⟨lw_p103, List.forall_mem_cons.mpr ⟨lw_p104, List.forall_mem_cons.mpr ⟨lw_p105, List.forall_mem_cons.mpr ⟨lw_p106, List.forall_mem_cons.mpr ⟨lw_p107, List.forall_mem_cons.mpr ⟨lw_p108, List.forall_mem_cons.mpr ⟨lw_p109, fun _ h => absurd h List.not_mem_nil⟩⟩⟩⟩⟩⟩⟩⟩⟩⟩⟩⟩⟩⟩
def lw_privs : List (MethodName × Nat) := lw_privs_1 ++ (lw_privs_2 ++ (lw_privs_3 ++ (lw_privs_4 ++ (lw_privs_5 ++ (lw_privs_6 ++ (lw_privs_7))))))
def lw_tbl : List Cond := k2_sels lw_privs ++ tables_1
theorem lw_privs_ok : ∀ q ∈ lw_privs, lw_okq q := by
  show ∀ q ∈ lw_privs_1 ++ (lw_privs_2 ++ (lw_privs_3 ++ (lw_privs_4 ++ (lw_privs_5 ++ (lw_privs_6 ++ (lw_privs_7)))))), lw_okq q
  exact List.forall_mem_append.mpr ⟨lw_r1, List.forall_mem_append.mpr ⟨lw_r2, List.forall_mem_append.mpr ⟨lw_r3, List.forall_mem_append.mpr ⟨lw_r4, List.forall_mem_append.mpr ⟨lw_r5, List.forall_mem_append.mpr ⟨lw_r6, lw_r7⟩⟩⟩⟩⟩⟩
end
section
def RX0 : String := "FoldedRealm$1"
def TX0 : u_T := fun k => match k with
  | _ => ("", "", "", false)
def tyX0 : Nat → FieldType := fun k => match k with
  | _ => .int
abbrev wsX00 : List Cond := u_ws RX0 TX0 0
theorem nmX0 : ∀ a, a < 0 → ∀ b, b < 0 → a ≠ b → (TX0 a).2.1 ≠ (TX0 b).2.1 := by decide +kernel
theorem tyX0_ok : ∀ k, k < 0 → parseFieldDescriptor (TX0 k).2.2.1 = some (tyX0 k) := by decide +kernel
def RX1 : String := "FoldedRealm$Formula"
def TX1 : u_T := fun k => match k with
  | 0 => ("FoldedRealm$Formula", "ofWrites", "Z", true)
  | 1 => ("FoldedRealm$Formula", "facts", "[I", true)
  | 2 => ("FoldedRealm$Formula", "stack", "[I", true)
  | 3 => ("FoldedRealm$Formula", "steps", "[I", true)
  | 4 => ("FoldedRealm$Formula", "from", "I", false)
  | _ => ("FoldedRealm$Formula", "to", "I", false)
def tyX1 : Nat → FieldType := fun k => match k with
  | 0 => .boolean
  | 1 => .array .int
  | 2 => .array .int
  | 3 => .array .int
  | 4 => .int
  | _ => .int
abbrev wsX10 : List Cond := u_ws RX1 TX1 6
theorem nmX1 : ∀ a, a < 6 → ∀ b, b < 6 → a ≠ b → (TX1 a).2.1 ≠ (TX1 b).2.1 := by decide +kernel
theorem tyX1_ok : ∀ k, k < 6 → parseFieldDescriptor (TX1 k).2.2.1 = some (tyX1 k) := by decide +kernel
abbrev cX1_init : ByteArray := prog_3_method_1_code
def yX1_init : MethodName := ⟨RX1, "<init>", "(Z[I)V"⟩
abbrev cX1_clear : ByteArray := prog_3_method_2_code
def yX1_clear : MethodName := ⟨RX1, "clear", "()V"⟩
abbrev cX1_beginAt : ByteArray := prog_3_method_3_code
def yX1_beginAt : MethodName := ⟨RX1, "beginAt", "(I)V"⟩
abbrev cX1_isTold : ByteArray := prog_3_method_4_code
def yX1_isTold : MethodName := ⟨RX1, "isTold", "()Z"⟩
abbrev cX1_add : ByteArray := prog_3_method_5_code
def yX1_add : MethodName := ⟨RX1, "add", "(I)V"⟩
abbrev cX1_addFact : ByteArray := prog_3_method_6_code
def yX1_addFact : MethodName := ⟨RX1, "addFact", "(I)V"⟩
abbrev cX1_setFact : ByteArray := prog_3_method_7_code
def yX1_setFact : MethodName := ⟨RX1, "setFact", "(II)V"⟩
abbrev cX1_held : ByteArray := prog_3_method_8_code
def yX1_held : MethodName := ⟨RX1, "held", "()I"⟩
abbrev cX1_factAt : ByteArray := prog_3_method_9_code
def yX1_factAt : MethodName := ⟨RX1, "factAt", "(I)I"⟩
abbrev cX1_joined : ByteArray := prog_3_method_10_code
def yX1_joined : MethodName := ⟨RX1, "joined", "(III)I"⟩
def RX2 : String := "FoldedRealm$FormulaReader"
def TX2 : u_T := fun k => match k with
  | _ => ("FoldedRealm$FormulaReader", "tokens", "LFoldedRealm$Tokens;", true)
def tyX2 : Nat → FieldType := fun k => match k with
  | _ => .object "FoldedRealm$Tokens"
abbrev wsX20 : List Cond := u_ws RX2 TX2 1
theorem nmX2 : ∀ a, a < 1 → ∀ b, b < 1 → a ≠ b → (TX2 a).2.1 ≠ (TX2 b).2.1 := by decide +kernel
theorem tyX2_ok : ∀ k, k < 1 → parseFieldDescriptor (TX2 k).2.2.1 = some (tyX2 k) := by decide +kernel
abbrev cX2_init : ByteArray := prog_4_method_1_code
def yX2_init : MethodName := ⟨RX2, "<init>", "(LFoldedRealm$Tokens;)V"⟩
abbrev cX2_readE : ByteArray := prog_4_method_2_code
def yX2_readE : MethodName := ⟨RX2, "readE", "(LFoldedRealm$Formula;I)Z"⟩
abbrev cX2_readTest : ByteArray := prog_4_method_3_code
def yX2_readTest : MethodName := ⟨RX2, "readTest", "(LFoldedRealm$Formula;I)Z"⟩
abbrev cX2_readSum : ByteArray := prog_4_method_4_code
def yX2_readSum : MethodName := ⟨RX2, "readSum", "(LFoldedRealm$Formula;I)Z"⟩
abbrev cX2_readProduct : ByteArray := prog_4_method_5_code
def yX2_readProduct : MethodName := ⟨RX2, "readProduct", "(LFoldedRealm$Formula;I)Z"⟩
abbrev cX2_readPart : ByteArray := prog_4_method_6_code
def yX2_readPart : MethodName := ⟨RX2, "readPart", "(LFoldedRealm$Formula;I)Z"⟩
abbrev cX2_readToClose : ByteArray := prog_4_method_7_code
def yX2_readToClose : MethodName := ⟨RX2, "readToClose", "(LFoldedRealm$Formula;I)Z"⟩
abbrev cX2_factTold : ByteArray := prog_4_method_8_code
def yX2_factTold : MethodName := ⟨RX2, "factTold", "(Z)I"⟩
abbrev cX2_factOfWrites : ByteArray := prog_4_method_9_code
def yX2_factOfWrites : MethodName := ⟨RX2, "factOfWrites", "()I"⟩
abbrev cX2_factOfDoes : ByteArray := prog_4_method_10_code
def yX2_factOfDoes : MethodName := ⟨RX2, "factOfDoes", "()I"⟩
def RX3 : String := "FoldedRealm$History"
def TX3 : u_T := fun k => match k with
  | 0 => ("FoldedRealm$History", "kept", "[LFoldedRealm$Standing;", true)
  | 1 => ("FoldedRealm$History", "first", "I", false)
  | _ => ("FoldedRealm$History", "size", "I", false)
def tyX3 : Nat → FieldType := fun k => match k with
  | 0 => .array (.object "FoldedRealm$Standing")
  | 1 => .int
  | _ => .int
abbrev wsX30 : List Cond := u_ws RX3 TX3 3
theorem nmX3 : ∀ a, a < 3 → ∀ b, b < 3 → a ≠ b → (TX3 a).2.1 ≠ (TX3 b).2.1 := by decide +kernel
theorem tyX3_ok : ∀ k, k < 3 → parseFieldDescriptor (TX3 k).2.2.1 = some (tyX3 k) := by decide +kernel
abbrev cX3_init : ByteArray := prog_5_method_1_code
def yX3_init : MethodName := ⟨RX3, "<init>", "()V"⟩
abbrev cX3_forget : ByteArray := prog_5_method_2_code
def yX3_forget : MethodName := ⟨RX3, "forget", "()V"⟩
abbrev cX3_keep : ByteArray := prog_5_method_3_code
def yX3_keep : MethodName := ⟨RX3, "keep", "(LFoldedRealm$Standing;)V"⟩
abbrev cX3_giveBack : ByteArray := prog_5_method_4_code
def yX3_giveBack : MethodName := ⟨RX3, "giveBack", "(LFoldedRealm$Standing;)Z"⟩
def RX4 : String := "FoldedRealm$Odds"
def TX4 : u_T := fun k => match k with
  | 0 => ("FoldedRealm$Odds", "likely", "[I", true)
  | 1 => ("FoldedRealm$Odds", "total", "[I", true)
  | 2 => ("FoldedRealm$Odds", "path", "[I", true)
  | 3 => ("FoldedRealm$Odds", "rowWords", "[I", true)
  | 4 => ("FoldedRealm$Odds", "rowTop", "[J", true)
  | 5 => ("FoldedRealm$Odds", "rowBottom", "[J", true)
  | _ => ("FoldedRealm$Odds", "rows", "I", false)
def tyX4 : Nat → FieldType := fun k => match k with
  | 0 => .array .int
  | 1 => .array .int
  | 2 => .array .int
  | 3 => .array .int
  | 4 => .array .long
  | 5 => .array .long
  | _ => .int
abbrev wsX40 : List Cond := u_ws RX4 TX4 7
theorem nmX4 : ∀ a, a < 7 → ∀ b, b < 7 → a ≠ b → (TX4 a).2.1 ≠ (TX4 b).2.1 := by decide +kernel
theorem tyX4_ok : ∀ k, k < 7 → parseFieldDescriptor (TX4 k).2.2.1 = some (tyX4 k) := by decide +kernel
abbrev cX4_init : ByteArray := prog_6_method_1_code
def yX4_init : MethodName := ⟨RX4, "<init>", "()V"⟩
abbrev cX4_likelyBehind : ByteArray := prog_6_method_2_code
def yX4_likelyBehind : MethodName := ⟨RX4, "likelyBehind", "(II)I"⟩
abbrev cX4_totalBehind : ByteArray := prog_6_method_3_code
def yX4_totalBehind : MethodName := ⟨RX4, "totalBehind", "(I)I"⟩
abbrev cX4_weighBehind : ByteArray := prog_6_method_4_code
def yX4_weighBehind : MethodName := ⟨RX4, "weighBehind", "(LFoldedRealm$Realm;LFoldedRealm$Standing;IIII)V"⟩
abbrev cX4_weighNext : ByteArray := prog_6_method_5_code
def yX4_weighNext : MethodName := ⟨RX4, "weighNext", "(LFoldedRealm$Realm;LFoldedRealm$Standing;)I"⟩
abbrev cX4_weighAll : ByteArray := prog_6_method_6_code
def yX4_weighAll : MethodName := ⟨RX4, "weighAll", "(LFoldedRealm$Realm;LFoldedRealm$Standing;II)V"⟩
abbrev cX4_likeliestAtBeginning : ByteArray := prog_6_method_7_code
def yX4_likeliestAtBeginning : MethodName := ⟨RX4, "likeliestAtBeginning", "(LFoldedRealm$Realm;I)I"⟩
abbrev cX4_drawnAtBeginning : ByteArray := prog_6_method_8_code
def yX4_drawnAtBeginning : MethodName := ⟨RX4, "drawnAtBeginning", "(LFoldedRealm$Realm;II)I"⟩
abbrev cX4_chanceOf : ByteArray := prog_6_method_9_code
def yX4_chanceOf : MethodName := ⟨RX4, "chanceOf", "(LFoldedRealm$Realm;II)I"⟩
abbrev cX4_inMillionths : ByteArray := prog_6_method_10_code
def yX4_inMillionths : MethodName := ⟨RX4, "inMillionths", "(JJ)I"⟩
abbrev cX4_gatherRows : ByteArray := prog_6_method_11_code
def yX4_gatherRows : MethodName := ⟨RX4, "gatherRows", "(LFoldedRealm$Realm;LFoldedRealm$Standing;)V"⟩
abbrev cX4_extend : ByteArray := prog_6_method_12_code
def yX4_extend : MethodName := ⟨RX4, "extend", "(LFoldedRealm$Realm;IIJJ)V"⟩
abbrev cX4_keepRow : ByteArray := prog_6_method_13_code
def yX4_keepRow : MethodName := ⟨RX4, "keepRow", "(JJ)V"⟩
abbrev cX4_greatestRow : ByteArray := prog_6_method_14_code
def yX4_greatestRow : MethodName := ⟨RX4, "greatestRow", "()I"⟩
abbrev cX4_hasRow : ByteArray := prog_6_method_15_code
def yX4_hasRow : MethodName := ⟨RX4, "hasRow", "(I)Z"⟩
abbrev cX4_millionths : ByteArray := prog_6_method_16_code
def yX4_millionths : MethodName := ⟨RX4, "millionths", "(I)I"⟩
abbrev cX4_wordOfRow : ByteArray := prog_6_method_17_code
def yX4_wordOfRow : MethodName := ⟨RX4, "wordOfRow", "(II)I"⟩
def RX5 : String := "FoldedRealm$Page"
def TX5 : u_T := fun k => match k with
  | 0 => ("FoldedRealm$Page", "standing", "LFoldedRealm$Standing;", true)
  | 1 => ("FoldedRealm$Page", "lines", "[I", true)
  | 2 => ("FoldedRealm$Page", "lineCount", "I", false)
  | 3 => ("FoldedRealm$Page", "readBits", "I", false)
  | 4 => ("FoldedRealm$Page", "readCount", "I", false)
  | _ => ("FoldedRealm$Page", "laid", "Z", false)
def tyX5 : Nat → FieldType := fun k => match k with
  | 0 => .object "FoldedRealm$Standing"
  | 1 => .array .int
  | 2 => .int
  | 3 => .int
  | 4 => .int
  | _ => .boolean
abbrev wsX50 : List Cond := u_ws RX5 TX5 6
theorem nmX5 : ∀ a, a < 6 → ∀ b, b < 6 → a ≠ b → (TX5 a).2.1 ≠ (TX5 b).2.1 := by decide +kernel
theorem tyX5_ok : ∀ k, k < 6 → parseFieldDescriptor (TX5 k).2.2.1 = some (tyX5 k) := by decide +kernel
abbrev cX5_init : ByteArray := prog_7_method_1_code
def yX5_init : MethodName := ⟨RX5, "<init>", "()V"⟩
abbrev cX5_begin : ByteArray := prog_7_method_2_code
def yX5_begin : MethodName := ⟨RX5, "begin", "(LFoldedRealm$Realm;)V"⟩
abbrev cX5_copyFrom : ByteArray := prog_7_method_3_code
def yX5_copyFrom : MethodName := ⟨RX5, "copyFrom", "(LFoldedRealm$Page;)V"⟩
abbrev cX5_takeLines : ByteArray := prog_7_method_4_code
def yX5_takeLines : MethodName := ⟨RX5, "takeLines", "([II)V"⟩
abbrev cX5_lineAt : ByteArray := prog_7_method_5_code
def yX5_lineAt : MethodName := ⟨RX5, "lineAt", "(I)I"⟩
def RX6 : String := "FoldedRealm$Reader"
def TX6 : u_T := fun k => match k with
  | 0 => ("FoldedRealm$Reader", "tokens", "LFoldedRealm$Tokens;", true)
  | 1 => ("FoldedRealm$Reader", "formulas", "LFoldedRealm$FormulaReader;", true)
  | 2 => ("FoldedRealm$Reader", "lines", "[I", true)
  | _ => ("FoldedRealm$Reader", "lineCount", "I", false)
def tyX6 : Nat → FieldType := fun k => match k with
  | 0 => .object "FoldedRealm$Tokens"
  | 1 => .object "FoldedRealm$FormulaReader"
  | 2 => .array .int
  | _ => .int
abbrev wsX60 : List Cond := u_ws RX6 TX6 4
theorem nmX6 : ∀ a, a < 4 → ∀ b, b < 4 → a ≠ b → (TX6 a).2.1 ≠ (TX6 b).2.1 := by decide +kernel
theorem tyX6_ok : ∀ k, k < 4 → parseFieldDescriptor (TX6 k).2.2.1 = some (tyX6 k) := by decide +kernel
abbrev cX6_init : ByteArray := prog_8_method_1_code
def yX6_init : MethodName := ⟨RX6, "<init>", "(LFoldedRealm$Tokens;)V"⟩
abbrev cX6_readRealm : ByteArray := prog_8_method_2_code
def yX6_readRealm : MethodName := ⟨RX6, "readRealm", "(LFoldedRealm$Realm;)I"⟩
abbrev cX6_readWriter : ByteArray := prog_8_method_3_code
def yX6_readWriter : MethodName := ⟨RX6, "readWriter", "(LFoldedRealm$Realm;)Z"⟩
abbrev cX6_kindTold : ByteArray := prog_8_method_4_code
def yX6_kindTold : MethodName := ⟨RX6, "kindTold", "()I"⟩
abbrev cX6_readWord : ByteArray := prog_8_method_5_code
def yX6_readWord : MethodName := ⟨RX6, "readWord", "(LFoldedRealm$Realm;)Z"⟩
abbrev cX6_readEntry : ByteArray := prog_8_method_6_code
def yX6_readEntry : MethodName := ⟨RX6, "readEntry", "(LFoldedRealm$Sort;I[II)Z"⟩
abbrev cX6_readLikes : ByteArray := prog_8_method_7_code
def yX6_readLikes : MethodName := ⟨RX6, "readLikes", "(LFoldedRealm$Realm;)Z"⟩
abbrev cX6_readClash : ByteArray := prog_8_method_8_code
def yX6_readClash : MethodName := ⟨RX6, "readClash", "(LFoldedRealm$Realm;)Z"⟩
abbrev cX6_readFolds : ByteArray := prog_8_method_9_code
def yX6_readFolds : MethodName := ⟨RX6, "readFolds", "(LFoldedRealm$Realm;)Z"⟩
abbrev cX6_readFormula : ByteArray := prog_8_method_10_code
def yX6_readFormula : MethodName := ⟨RX6, "readFormula", "(LFoldedRealm$Realm;LFoldedRealm$Formula;)Z"⟩
abbrev cX6_readSundays : ByteArray := prog_8_method_11_code
def yX6_readSundays : MethodName := ⟨RX6, "readSundays", "(LFoldedRealm$Realm;)I"⟩
abbrev cX6_readSundayLine : ByteArray := prog_8_method_12_code
def yX6_readSundayLine : MethodName := ⟨RX6, "readSundayLine", "(LFoldedRealm$Realm;)Z"⟩
abbrev cX6_failAtName : ByteArray := prog_8_method_13_code
def yX6_failAtName : MethodName := ⟨RX6, "failAtName", "()Z"⟩
abbrev cX6_isNewName : ByteArray := prog_8_method_14_code
def yX6_isNewName : MethodName := ⟨RX6, "isNewName", "(LFoldedRealm$Realm;)Z"⟩
abbrev cX6_isNumber : ByteArray := prog_8_method_15_code
def yX6_isNumber : MethodName := ⟨RX6, "isNumber", "(II)Z"⟩
def RX7 : String := "FoldedRealm$Realm"
def TX7 : u_T := fun k => match k with
  | 0 => ("FoldedRealm$Realm", "writers", "I", false)
  | 1 => ("FoldedRealm$Realm", "kind", "[I", true)
  | 2 => ("FoldedRealm$Realm", "writerName", "[J", true)
  | 3 => ("FoldedRealm$Realm", "words", "I", false)
  | 4 => ("FoldedRealm$Realm", "fold", "[I", true)
  | 5 => ("FoldedRealm$Realm", "weight", "[I", true)
  | 6 => ("FoldedRealm$Realm", "good", "[I", true)
  | 7 => ("FoldedRealm$Realm", "left", "[I", true)
  | 8 => ("FoldedRealm$Realm", "wordName", "[J", true)
  | 9 => ("FoldedRealm$Realm", "fond", "[I", true)
  | 10 => ("FoldedRealm$Realm", "clashing", "[I", true)
  | 11 => ("FoldedRealm$Realm", "clashesTold", "I", false)
  | 12 => ("FoldedRealm$Realm", "folds", "I", false)
  | 13 => ("FoldedRealm$Realm", "foldsTold", "Z", false)
  | 14 => ("FoldedRealm$Realm", "writes", "LFoldedRealm$Formula;", true)
  | _ => ("FoldedRealm$Realm", "does", "LFoldedRealm$Formula;", true)
def tyX7 : Nat → FieldType := fun k => match k with
  | 0 => .int
  | 1 => .array .int
  | 2 => .array .long
  | 3 => .int
  | 4 => .array .int
  | 5 => .array .int
  | 6 => .array .int
  | 7 => .array .int
  | 8 => .array .long
  | 9 => .array .int
  | 10 => .array .int
  | 11 => .int
  | 12 => .int
  | 13 => .boolean
  | 14 => .object "FoldedRealm$Formula"
  | _ => .object "FoldedRealm$Formula"
abbrev wsX70 : List Cond := u_ws RX7 TX7 16
theorem nmX7 : ∀ a, a < 16 → ∀ b, b < 16 → a ≠ b → (TX7 a).2.1 ≠ (TX7 b).2.1 := by decide +kernel
theorem tyX7_ok : ∀ k, k < 16 → parseFieldDescriptor (TX7 k).2.2.1 = some (tyX7 k) := by decide +kernel
abbrev cX7_init : ByteArray := prog_9_method_1_code
def yX7_init : MethodName := ⟨RX7, "<init>", "()V"⟩
abbrev cX7_clear : ByteArray := prog_9_method_2_code
def yX7_clear : MethodName := ⟨RX7, "clear", "()V"⟩
abbrev cX7_hasWriter : ByteArray := prog_9_method_3_code
def yX7_hasWriter : MethodName := ⟨RX7, "hasWriter", "(I)Z"⟩
abbrev cX7_hasWord : ByteArray := prog_9_method_4_code
def yX7_hasWord : MethodName := ⟨RX7, "hasWord", "(I)Z"⟩
abbrev cX7_foldOf : ByteArray := prog_9_method_5_code
def yX7_foldOf : MethodName := ⟨RX7, "foldOf", "(I)I"⟩
abbrev cX7_isWritten : ByteArray := prog_9_method_6_code
def yX7_isWritten : MethodName := ⟨RX7, "isWritten", "(I)Z"⟩
abbrev cX7_goodOfWord : ByteArray := prog_9_method_7_code
def yX7_goodOfWord : MethodName := ⟨RX7, "goodOfWord", "(I)I"⟩
abbrev cX7_kindOf : ByteArray := prog_9_method_8_code
def yX7_kindOf : MethodName := ⟨RX7, "kindOf", "(I)I"⟩
abbrev cX7_fondness : ByteArray := prog_9_method_9_code
def yX7_fondness : MethodName := ⟨RX7, "fondness", "(II)I"⟩
abbrev cX7_setFondness : ByteArray := prog_9_method_10_code
def yX7_setFondness : MethodName := ⟨RX7, "setFondness", "(III)V"⟩
abbrev cX7_findWriter : ByteArray := prog_9_method_11_code
def yX7_findWriter : MethodName := ⟨RX7, "findWriter", "(J)I"⟩
abbrev cX7_findWord : ByteArray := prog_9_method_12_code
def yX7_findWord : MethodName := ⟨RX7, "findWord", "(J)I"⟩
abbrev cX7_doClash : ByteArray := prog_9_method_13_code
def yX7_doClash : MethodName := ⟨RX7, "doClash", "(II)Z"⟩
abbrev cX7_setClash : ByteArray := prog_9_method_14_code
def yX7_setClash : MethodName := ⟨RX7, "setClash", "(II)V"⟩
abbrev cX7_bitsOfFold : ByteArray := prog_9_method_15_code
def yX7_bitsOfFold : MethodName := ⟨RX7, "bitsOfFold", "(I)I"⟩
abbrev cX7_wordOfFold : ByteArray := prog_9_method_16_code
def yX7_wordOfFold : MethodName := ⟨RX7, "wordOfFold", "(II)I"⟩
abbrev cX7_isRow : ByteArray := prog_9_method_17_code
def yX7_isRow : MethodName := ⟨RX7, "isRow", "(II)Z"⟩
abbrev cX7_writerAt : ByteArray := prog_9_method_18_code
def yX7_writerAt : MethodName := ⟨RX7, "writerAt", "(II)I"⟩
abbrev cX7_seatBehind : ByteArray := prog_9_method_19_code
def yX7_seatBehind : MethodName := ⟨RX7, "seatBehind", "(I)I"⟩
abbrev cX7_likely : ByteArray := prog_9_method_20_code
def yX7_likely : MethodName := ⟨RX7, "likely", "(IIII)I"⟩
abbrev cX7_goodOf : ByteArray := prog_9_method_21_code
def yX7_goodOf : MethodName := ⟨RX7, "goodOf", "([III)I"⟩
def RX8 : String := "FoldedRealm$Shares"
def TX8 : u_T := fun k => match k with
  | _ => ("FoldedRealm$Shares", "has", "[I", true)
def tyX8 : Nat → FieldType := fun k => match k with
  | _ => .array .int
abbrev wsX80 : List Cond := u_ws RX8 TX8 1
theorem nmX8 : ∀ a, a < 1 → ∀ b, b < 1 → a ≠ b → (TX8 a).2.1 ≠ (TX8 b).2.1 := by decide +kernel
theorem tyX8_ok : ∀ k, k < 1 → parseFieldDescriptor (TX8 k).2.2.1 = some (tyX8 k) := by decide +kernel
abbrev cX8_init : ByteArray := prog_10_method_1_code
def yX8_init : MethodName := ⟨RX8, "<init>", "()V"⟩
abbrev cX8_of : ByteArray := prog_10_method_2_code
def yX8_of : MethodName := ⟨RX8, "of", "(I)I"⟩
abbrev cX8_atLast : ByteArray := prog_10_method_3_code
def yX8_atLast : MethodName := ⟨RX8, "atLast", "(LFoldedRealm$Realm;)I"⟩
abbrev cX8_pour : ByteArray := prog_10_method_4_code
def yX8_pour : MethodName := ⟨RX8, "pour", "(LFoldedRealm$Realm;LFoldedRealm$Odds;I)V"⟩
abbrev cX8_pourBehind : ByteArray := prog_10_method_5_code
def yX8_pourBehind : MethodName := ⟨RX8, "pourBehind", "(LFoldedRealm$Realm;LFoldedRealm$Odds;I)V"⟩
abbrev cX8_empty : ByteArray := prog_10_method_6_code
def yX8_empty : MethodName := ⟨RX8, "empty", "()V"⟩
abbrev cX8_flow : ByteArray := prog_10_method_7_code
def yX8_flow : MethodName := ⟨RX8, "flow", "(LFoldedRealm$Realm;LFoldedRealm$Odds;I)V"⟩
abbrev cX8_share : ByteArray := prog_10_method_8_code
def yX8_share : MethodName := ⟨RX8, "share", "(LFoldedRealm$Realm;LFoldedRealm$Odds;III)V"⟩
abbrev cX8_keepAlone : ByteArray := prog_10_method_9_code
def yX8_keepAlone : MethodName := ⟨RX8, "keepAlone", "(LFoldedRealm$Realm;II)V"⟩
def RX9 : String := "FoldedRealm$Sort"
def TX9 : u_T := fun k => match k with
  | _ => ("", "", "", false)
def tyX9 : Nat → FieldType := fun k => match k with
  | _ => .int
abbrev wsX90 : List Cond := u_ws RX9 TX9 0
theorem nmX9 : ∀ a, a < 0 → ∀ b, b < 0 → a ≠ b → (TX9 a).2.1 ≠ (TX9 b).2.1 := by decide +kernel
theorem tyX9_ok : ∀ k, k < 0 → parseFieldDescriptor (TX9 k).2.2.1 = some (tyX9 k) := by decide +kernel
def RX10 : String := "FoldedRealm$Standing"
def TX10 : u_T := fun k => match k with
  | 0 => ("FoldedRealm$Standing", "left", "[I", true)
  | 1 => ("FoldedRealm$Standing", "strip", "[I", true)
  | 2 => ("FoldedRealm$Standing", "spike", "[I", true)
  | 3 => ("FoldedRealm$Standing", "written", "I", false)
  | 4 => ("FoldedRealm$Standing", "seat", "I", false)
  | 5 => ("FoldedRealm$Standing", "wholes", "I", false)
  | _ => ("FoldedRealm$Standing", "good", "I", false)
def tyX10 : Nat → FieldType := fun k => match k with
  | 0 => .array .int
  | 1 => .array .int
  | 2 => .array .int
  | 3 => .int
  | 4 => .int
  | 5 => .int
  | _ => .int
abbrev wsX100 : List Cond := u_ws RX10 TX10 7
theorem nmX10 : ∀ a, a < 7 → ∀ b, b < 7 → a ≠ b → (TX10 a).2.1 ≠ (TX10 b).2.1 := by decide +kernel
theorem tyX10_ok : ∀ k, k < 7 → parseFieldDescriptor (TX10 k).2.2.1 = some (tyX10 k) := by decide +kernel
abbrev cX10_init : ByteArray := prog_12_method_1_code
def yX10_init : MethodName := ⟨RX10, "<init>", "()V"⟩
abbrev cX10_begin : ByteArray := prog_12_method_2_code
def yX10_begin : MethodName := ⟨RX10, "begin", "(LFoldedRealm$Realm;)V"⟩
abbrev cX10_copyFrom : ByteArray := prog_12_method_3_code
def yX10_copyFrom : MethodName := ⟨RX10, "copyFrom", "(LFoldedRealm$Standing;)V"⟩
abbrev cX10_stripAt : ByteArray := prog_12_method_4_code
def yX10_stripAt : MethodName := ⟨RX10, "stripAt", "(I)I"⟩
abbrev cX10_hasWhole : ByteArray := prog_12_method_5_code
def yX10_hasWhole : MethodName := ⟨RX10, "hasWhole", "(I)Z"⟩
abbrev cX10_spikeAt : ByteArray := prog_12_method_6_code
def yX10_spikeAt : MethodName := ⟨RX10, "spikeAt", "(II)I"⟩
abbrev cX10_leftOf : ByteArray := prog_12_method_7_code
def yX10_leftOf : MethodName := ⟨RX10, "leftOf", "(I)I"⟩
abbrev cX10_leftTogether : ByteArray := prog_12_method_8_code
def yX10_leftTogether : MethodName := ⟨RX10, "leftTogether", "(LFoldedRealm$Realm;)I"⟩
abbrev cX10_canPut : ByteArray := prog_12_method_9_code
def yX10_canPut : MethodName := ⟨RX10, "canPut", "(LFoldedRealm$Realm;I)Z"⟩
abbrev cX10_put : ByteArray := prog_12_method_10_code
def yX10_put : MethodName := ⟨RX10, "put", "(LFoldedRealm$Realm;I)V"⟩
abbrev cX10_putOnSpike : ByteArray := prog_12_method_11_code
def yX10_putOnSpike : MethodName := ⟨RX10, "putOnSpike", "()V"⟩
abbrev cX10_closeGap : ByteArray := prog_12_method_12_code
def yX10_closeGap : MethodName := ⟨RX10, "closeGap", "(I)V"⟩
abbrev cX10_canMoveSeat : ByteArray := prog_12_method_13_code
def yX10_canMoveSeat : MethodName := ⟨RX10, "canMoveSeat", "(LFoldedRealm$Realm;)Z"⟩
abbrev cX10_moveSeat : ByteArray := prog_12_method_14_code
def yX10_moveSeat : MethodName := ⟨RX10, "moveSeat", "(LFoldedRealm$Realm;)V"⟩
abbrev cX10_takeDown : ByteArray := prog_12_method_15_code
def yX10_takeDown : MethodName := ⟨RX10, "takeDown", "(LFoldedRealm$Realm;I)V"⟩
abbrev cX10_follow : ByteArray := prog_12_method_16_code
def yX10_follow : MethodName := ⟨RX10, "follow", "(LFoldedRealm$Realm;I)Z"⟩
abbrev cX10_cameBy : ByteArray := prog_12_method_17_code
def yX10_cameBy : MethodName := ⟨RX10, "cameBy", "(I)Z"⟩
abbrev cX10_lastClashes : ByteArray := prog_12_method_18_code
def yX10_lastClashes : MethodName := ⟨RX10, "lastClashes", "(LFoldedRealm$Realm;)Z"⟩
abbrev cX10_areClashing : ByteArray := prog_12_method_19_code
def yX10_areClashing : MethodName := ⟨RX10, "areClashing", "(LFoldedRealm$Realm;II)Z"⟩
abbrev cX10_foesOf : ByteArray := prog_12_method_20_code
def yX10_foesOf : MethodName := ⟨RX10, "foesOf", "(LFoldedRealm$Realm;I)I"⟩
abbrev cX10_clashCount : ByteArray := prog_12_method_21_code
def yX10_clashCount : MethodName := ⟨RX10, "clashCount", "(LFoldedRealm$Realm;)I"⟩
def RX11 : String := "FoldedRealm$Tokens"
def TX11 : u_T := fun k => match k with
  | 0 => ("FoldedRealm$Tokens", "signs", "[B", true)
  | 1 => ("FoldedRealm$Tokens", "length", "I", false)
  | 2 => ("FoldedRealm$Tokens", "next", "I", false)
  | 3 => ("FoldedRealm$Tokens", "place", "I", false)
  | 4 => ("FoldedRealm$Tokens", "sort", "LFoldedRealm$Sort;", false)
  | 5 => ("FoldedRealm$Tokens", "number", "I", false)
  | 6 => ("FoldedRealm$Tokens", "name", "J", false)
  | _ => ("FoldedRealm$Tokens", "fault", "I", false)
def tyX11 : Nat → FieldType := fun k => match k with
  | 0 => .array .byte
  | 1 => .int
  | 2 => .int
  | 3 => .int
  | 4 => .object "FoldedRealm$Sort"
  | 5 => .int
  | 6 => .long
  | _ => .int
abbrev wsX110 : List Cond := u_ws RX11 TX11 8
theorem nmX11 : ∀ a, a < 8 → ∀ b, b < 8 → a ≠ b → (TX11 a).2.1 ≠ (TX11 b).2.1 := by decide +kernel
theorem tyX11_ok : ∀ k, k < 8 → parseFieldDescriptor (TX11 k).2.2.1 = some (tyX11 k) := by decide +kernel
abbrev cX11_init : ByteArray := prog_13_method_1_code
def yX11_init : MethodName := ⟨RX11, "<init>", "()V"⟩
abbrev cX11_append : ByteArray := prog_13_method_2_code
def yX11_append : MethodName := ⟨RX11, "append", "(J)V"⟩
abbrev cX11_takeOff : ByteArray := prog_13_method_3_code
def yX11_takeOff : MethodName := ⟨RX11, "takeOff", "()V"⟩
abbrev cX11_begin : ByteArray := prog_13_method_4_code
def yX11_begin : MethodName := ⟨RX11, "begin", "()V"⟩
abbrev cX11_fail : ByteArray := prog_13_method_5_code
def yX11_fail : MethodName := ⟨RX11, "fail", "(I)Z"⟩
abbrev cX11_is : ByteArray := prog_13_method_6_code
def yX11_is : MethodName := ⟨RX11, "is", "(LFoldedRealm$Sort;)Z"⟩
abbrev cX11_skip : ByteArray := prog_13_method_7_code
def yX11_skip : MethodName := ⟨RX11, "skip", "(LFoldedRealm$Sort;)Z"⟩
abbrev cX11_step : ByteArray := prog_13_method_8_code
def yX11_step : MethodName := ⟨RX11, "step", "()V"⟩
abbrev cX11_takeLetters : ByteArray := prog_13_method_9_code
def yX11_takeLetters : MethodName := ⟨RX11, "takeLetters", "()V"⟩
abbrev cX11_takeDigits : ByteArray := prog_13_method_10_code
def yX11_takeDigits : MethodName := ⟨RX11, "takeDigits", "()V"⟩
abbrev cX11_sortTaken : ByteArray := prog_13_method_11_code
def yX11_sortTaken : MethodName := ⟨RX11, "sortTaken", "()LFoldedRealm$Sort;"⟩
abbrev cX11_hasText : ByteArray := prog_13_method_12_code
def yX11_hasText : MethodName := ⟨RX11, "hasText", "(Ljava/lang/String;)Z"⟩
abbrev cX11_isLetter : ByteArray := prog_13_method_13_code
def yX11_isLetter : MethodName := ⟨RX11, "isLetter", "(I)Z"⟩
abbrev cX11_isDigit : ByteArray := prog_13_method_14_code
def yX11_isDigit : MethodName := ⟨RX11, "isDigit", "(I)Z"⟩
def RX12 : String := "FoldedRealm"
def TX12 : u_T := fun k => match k with
  | 0 => ("FoldedRealm", "tokens", "LFoldedRealm$Tokens;", true)
  | 1 => ("FoldedRealm", "reader", "LFoldedRealm$Reader;", true)
  | 2 => ("FoldedRealm", "realm", "LFoldedRealm$Realm;", false)
  | 3 => ("FoldedRealm", "draft", "LFoldedRealm$Realm;", false)
  | 4 => ("FoldedRealm", "page", "LFoldedRealm$Page;", true)
  | 5 => ("FoldedRealm", "marks", "[LFoldedRealm$Page;", true)
  | 6 => ("FoldedRealm", "history", "LFoldedRealm$History;", true)
  | 7 => ("FoldedRealm", "trial", "LFoldedRealm$Standing;", true)
  | 8 => ("FoldedRealm", "odds", "LFoldedRealm$Odds;", true)
  | 9 => ("FoldedRealm", "shares", "LFoldedRealm$Shares;", true)
  | 10 => ("FoldedRealm", "seatShares", "[I", true)
  | _ => ("FoldedRealm", "foes", "[I", true)
def tyX12 : Nat → FieldType := fun k => match k with
  | 0 => .object "FoldedRealm$Tokens"
  | 1 => .object "FoldedRealm$Reader"
  | 2 => .object "FoldedRealm$Realm"
  | 3 => .object "FoldedRealm$Realm"
  | 4 => .object "FoldedRealm$Page"
  | 5 => .array (.object "FoldedRealm$Page")
  | 6 => .object "FoldedRealm$History"
  | 7 => .object "FoldedRealm$Standing"
  | 8 => .object "FoldedRealm$Odds"
  | 9 => .object "FoldedRealm$Shares"
  | 10 => .array .int
  | _ => .array .int
abbrev wsX120 : List Cond := u_ws RX12 TX12 12
theorem nmX12 : ∀ a, a < 12 → ∀ b, b < 12 → a ≠ b → (TX12 a).2.1 ≠ (TX12 b).2.1 := by decide +kernel
theorem tyX12_ok : ∀ k, k < 12 → parseFieldDescriptor (TX12 k).2.2.1 = some (tyX12 k) := by decide +kernel
abbrev cX12_init : ByteArray := prog_1_method_1_code
def yX12_init : MethodName := ⟨RX12, "<init>", "()V"⟩
abbrev cX12_feed : ByteArray := prog_1_method_2_code
def yX12_feed : MethodName := ⟨RX12, "feed", "(JJJ)I"⟩
abbrev cX12_realm : ByteArray := prog_1_method_3_code
def yX12_realm : MethodName := ⟨RX12, "realm", "()I"⟩
abbrev cX12_sundays : ByteArray := prog_1_method_4_code
def yX12_sundays : MethodName := ⟨RX12, "sundays", "()I"⟩
abbrev cX12_writer : ByteArray := prog_1_method_5_code
def yX12_writer : MethodName := ⟨RX12, "writer", "(II)I"⟩
abbrev cX12_word : ByteArray := prog_1_method_6_code
def yX12_word : MethodName := ⟨RX12, "word", "(II)I"⟩
abbrev cX12_likelyNow : ByteArray := prog_1_method_7_code
def yX12_likelyNow : MethodName := ⟨RX12, "likelyNow", "(I)I"⟩
abbrev cX12_strip : ByteArray := prog_1_method_8_code
def yX12_strip : MethodName := ⟨RX12, "strip", "(I)I"⟩
abbrev cX12_spike : ByteArray := prog_1_method_9_code
def yX12_spike : MethodName := ⟨RX12, "spike", "(II)I"⟩
abbrev cX12_write : ByteArray := prog_1_method_10_code
def yX12_write : MethodName := ⟨RX12, "write", "(I)I"⟩
abbrev cX12_pass : ByteArray := prog_1_method_11_code
def yX12_pass : MethodName := ⟨RX12, "pass", "()I"⟩
abbrev cX12_burn : ByteArray := prog_1_method_12_code
def yX12_burn : MethodName := ⟨RX12, "burn", "(I)I"⟩
abbrev cX12_undo : ByteArray := prog_1_method_13_code
def yX12_undo : MethodName := ⟨RX12, "undo", "()Z"⟩
abbrev cX12_judged : ByteArray := prog_1_method_14_code
def yX12_judged : MethodName := ⟨RX12, "judged", "(I)I"⟩
abbrev cX12_comes : ByteArray := prog_1_method_15_code
def yX12_comes : MethodName := ⟨RX12, "comes", "(I)I"⟩
abbrev cX12_best : ByteArray := prog_1_method_16_code
def yX12_best : MethodName := ⟨RX12, "best", "(I)I"⟩
abbrev cX12_worst : ByteArray := prog_1_method_17_code
def yX12_worst : MethodName := ⟨RX12, "worst", "()I"⟩
abbrev cX12_mean : ByteArray := prog_1_method_18_code
def yX12_mean : MethodName := ⟨RX12, "mean", "()I"⟩
abbrev cX12_aim : ByteArray := prog_1_method_19_code
def yX12_aim : MethodName := ⟨RX12, "aim", "(II)I"⟩
abbrev cX12_meet : ByteArray := prog_1_method_20_code
def yX12_meet : MethodName := ⟨RX12, "meet", "(III)I"⟩
abbrev cX12_sharedBy : ByteArray := prog_1_method_21_code
def yX12_sharedBy : MethodName := ⟨RX12, "sharedBy", "(II)I"⟩
abbrev cX12_clashes : ByteArray := prog_1_method_22_code
def yX12_clashes : MethodName := ⟨RX12, "clashes", "()I"⟩
abbrev cX12_fire : ByteArray := prog_1_method_23_code
def yX12_fire : MethodName := ⟨RX12, "fire", "()I"⟩
abbrev cX12_isPeaceWithout : ByteArray := prog_1_method_24_code
def yX12_isPeaceWithout : MethodName := ⟨RX12, "isPeaceWithout", "(I)Z"⟩
abbrev cX12_read : ByteArray := prog_1_method_25_code
def yX12_read : MethodName := ⟨RX12, "read", "(I)Z"⟩
abbrev cX12_began : ByteArray := prog_1_method_26_code
def yX12_began : MethodName := ⟨RX12, "began", "()I"⟩
abbrev cX12_sure : ByteArray := prog_1_method_27_code
def yX12_sure : MethodName := ⟨RX12, "sure", "()I"⟩
abbrev cX12_ask : ByteArray := prog_1_method_28_code
def yX12_ask : MethodName := ⟨RX12, "ask", "()I"⟩
abbrev cX12_likeliestBy : ByteArray := prog_1_method_29_code
def yX12_likeliestBy : MethodName := ⟨RX12, "likeliestBy", "(II)I"⟩
abbrev cX12_spent : ByteArray := prog_1_method_30_code
def yX12_spent : MethodName := ⟨RX12, "spent", "()I"⟩
abbrev cX12_rests : ByteArray := prog_1_method_31_code
def yX12_rests : MethodName := ⟨RX12, "rests", "(IIII)I"⟩
abbrev cX12_isPrize : ByteArray := prog_1_method_32_code
def yX12_isPrize : MethodName := ⟨RX12, "isPrize", "(I)Z"⟩
abbrev cX12_prize : ByteArray := prog_1_method_33_code
def yX12_prize : MethodName := ⟨RX12, "prize", "(IIIII)I"⟩
abbrev cX12_generations : ByteArray := prog_1_method_34_code
def yX12_generations : MethodName := ⟨RX12, "generations", "(III)I"⟩
abbrev cX12_mark : ByteArray := prog_1_method_35_code
def yX12_mark : MethodName := ⟨RX12, "mark", "(IZ)Z"⟩
abbrev cX12_count : ByteArray := prog_1_method_36_code
def yX12_count : MethodName := ⟨RX12, "count", "(I)I"⟩
def RX13 : String := "FoldedRealmModel"
def TX13 : u_T := fun k => match k with
  | 0 => ("FoldedRealmModel", "thrown", "I", false)
  | 1 => ("FoldedRealmModel", "taped", "I", false)
  | 2 => ("FoldedRealmModel", "tape", "[I", true)
  | 3 => ("FoldedRealmModel", "size", "I", false)
  | 4 => ("FoldedRealmModel", "place", "I", false)
  | 5 => ("FoldedRealmModel", "begin", "I", false)
  | 6 => ("FoldedRealmModel", "token", "I", false)
  | 7 => ("FoldedRealmModel", "word", "J", false)
  | 8 => ("FoldedRealmModel", "told", "I", false)
  | 9 => ("FoldedRealmModel", "wrong", "I", false)
  | 10 => ("FoldedRealmModel", "realm", "[I", true)
  | 11 => ("FoldedRealmModel", "writerName", "[J", true)
  | 12 => ("FoldedRealmModel", "wordName", "[J", true)
  | 13 => ("FoldedRealmModel", "kind", "[I", true)
  | 14 => ("FoldedRealmModel", "fold", "[I", true)
  | 15 => ("FoldedRealmModel", "weight", "[I", true)
  | 16 => ("FoldedRealmModel", "good", "[I", true)
  | 17 => ("FoldedRealmModel", "leftTold", "[I", true)
  | 18 => ("FoldedRealmModel", "likes", "[I", true)
  | 19 => ("FoldedRealmModel", "clashes", "[I", true)
  | 20 => ("FoldedRealmModel", "lineFrom", "[I", true)
  | 21 => ("FoldedRealmModel", "lineTo", "[I", true)
  | 22 => ("FoldedRealmModel", "codes", "[I", true)
  | 23 => ("FoldedRealmModel", "code", "I", false)
  | 24 => ("FoldedRealmModel", "lawLine", "I", false)
  | 25 => ("FoldedRealmModel", "isFolds", "Z", false)
  | 26 => ("FoldedRealmModel", "opened", "[I", true)
  | 27 => ("FoldedRealmModel", "compared", "[Z", true)
  | 28 => ("FoldedRealmModel", "kept", "[I", true)
  | 29 => ("FoldedRealmModel", "keptBy", "[I", true)
  | 30 => ("FoldedRealmModel", "ahead", "[I", true)
  | 31 => ("FoldedRealmModel", "against", "[I", true)
  | 32 => ("FoldedRealmModel", "sum", "[I", true)
  | 33 => ("FoldedRealmModel", "sumBy", "[I", true)
  | 34 => ("FoldedRealmModel", "term", "[I", true)
  | 35 => ("FoldedRealmModel", "termBy", "[I", true)
  | 36 => ("FoldedRealmModel", "byNot", "[I", true)
  | 37 => ("FoldedRealmModel", "valueOf", "[I", true)
  | 38 => ("FoldedRealmModel", "given", "I", false)
  | 39 => ("FoldedRealmModel", "fresh", "J", false)
  | 40 => ("FoldedRealmModel", "lines", "[I", true)
  | 41 => ("FoldedRealmModel", "lineWhat", "[I", true)
  | 42 => ("FoldedRealmModel", "lineN", "[I", true)
  | 43 => ("FoldedRealmModel", "reads0", "[I", true)
  | 44 => ("FoldedRealmModel", "readWord", "[I", true)
  | 45 => ("FoldedRealmModel", "s", "[I", true)
  | 46 => ("FoldedRealmModel", "aside", "[I", true)
  | 47 => ("FoldedRealmModel", "marked", "[I", true)
  | 48 => ("FoldedRealmModel", "undone", "[I", true)
  | 49 => ("FoldedRealmModel", "isLaid", "[Z", true)
  | 50 => ("FoldedRealmModel", "done", "I", false)
  | 51 => ("FoldedRealmModel", "goodCame", "I", false)
  | 52 => ("FoldedRealmModel", "above", "J", false)
  | 53 => ("FoldedRealmModel", "below", "J", false)
  | 54 => ("FoldedRealmModel", "row", "[I", true)
  | 55 => ("FoldedRealmModel", "bestRow", "[I", true)
  | 56 => ("FoldedRealmModel", "bestAbove", "J", false)
  | 57 => ("FoldedRealmModel", "bestBelow", "J", false)
  | 58 => ("FoldedRealmModel", "worstDoes", "I", false)
  | 59 => ("FoldedRealmModel", "meanDoes", "J", false)
  | 60 => ("FoldedRealmModel", "share", "[I", true)
  | 61 => ("FoldedRealmModel", "onlyAt", "[I", true)
  | _ => ("FoldedRealmModel", "g", "J", false)
def tyX13 : Nat → FieldType := fun k => match k with
  | 0 => .int
  | 1 => .int
  | 2 => .array .int
  | 3 => .int
  | 4 => .int
  | 5 => .int
  | 6 => .int
  | 7 => .long
  | 8 => .int
  | 9 => .int
  | 10 => .array .int
  | 11 => .array .long
  | 12 => .array .long
  | 13 => .array .int
  | 14 => .array .int
  | 15 => .array .int
  | 16 => .array .int
  | 17 => .array .int
  | 18 => .array .int
  | 19 => .array .int
  | 20 => .array .int
  | 21 => .array .int
  | 22 => .array .int
  | 23 => .int
  | 24 => .int
  | 25 => .boolean
  | 26 => .array .int
  | 27 => .array .boolean
  | 28 => .array .int
  | 29 => .array .int
  | 30 => .array .int
  | 31 => .array .int
  | 32 => .array .int
  | 33 => .array .int
  | 34 => .array .int
  | 35 => .array .int
  | 36 => .array .int
  | 37 => .array .int
  | 38 => .int
  | 39 => .long
  | 40 => .array .int
  | 41 => .array .int
  | 42 => .array .int
  | 43 => .array .int
  | 44 => .array .int
  | 45 => .array .int
  | 46 => .array .int
  | 47 => .array .int
  | 48 => .array .int
  | 49 => .array .boolean
  | 50 => .int
  | 51 => .int
  | 52 => .long
  | 53 => .long
  | 54 => .array .int
  | 55 => .array .int
  | 56 => .long
  | 57 => .long
  | 58 => .int
  | 59 => .long
  | 60 => .array .int
  | 61 => .array .int
  | _ => .long
abbrev wsX130 : List Cond := u_ws RX13 TX13 63
theorem nmX13 : ∀ a, a < 63 → ∀ b, b < 63 → a ≠ b → (TX13 a).2.1 ≠ (TX13 b).2.1 := by decide +kernel
theorem tyX13_ok : ∀ k, k < 63 → parseFieldDescriptor (TX13 k).2.2.1 = some (tyX13 k) := by decide +kernel
abbrev cX13_init : ByteArray := prog_15_method_1_code
def yX13_init : MethodName := ⟨RX13, "<init>", "()V"⟩
abbrev cX13_thrown : ByteArray := prog_15_method_2_code
def yX13_thrown : MethodName := ⟨RX13, "thrown", "()I"⟩
abbrev cX13_within : ByteArray := prog_15_method_3_code
def yX13_within : MethodName := ⟨RX13, "within", "(III)Z"⟩
abbrev cX13_between : ByteArray := prog_15_method_4_code
def yX13_between : MethodName := ⟨RX13, "between", "(III)I"⟩
abbrev cX13_bits : ByteArray := prog_15_method_5_code
def yX13_bits : MethodName := ⟨RX13, "bits", "(I)I"⟩
abbrev cX13_feed : ByteArray := prog_15_method_6_code
def yX13_feed : MethodName := ⟨RX13, "feed", "(JJJ)I"⟩
abbrev cX13_signAt : ByteArray := prog_15_method_7_code
def yX13_signAt : MethodName := ⟨RX13, "signAt", "(I)I"⟩
abbrev cX13_nextToken : ByteArray := prog_15_method_8_code
def yX13_nextToken : MethodName := ⟨RX13, "nextToken", "()V"⟩
abbrev cX13_isWord : ByteArray := prog_15_method_9_code
def yX13_isWord : MethodName := ⟨RX13, "isWord", "(J)Z"⟩
abbrev cX13_isSign : ByteArray := prog_15_method_10_code
def yX13_isSign : MethodName := ⟨RX13, "isSign", "(I)Z"⟩
abbrev cX13_fails : ByteArray := prog_15_method_11_code
def yX13_fails : MethodName := ⟨RX13, "fails", "(I)Z"⟩
abbrev cX13_puts : ByteArray := prog_15_method_12_code
def yX13_puts : MethodName := ⟨RX13, "puts", "(I)V"⟩
abbrev cX13_fact : ByteArray := prog_15_method_13_code
def yX13_fact : MethodName := ⟨RX13, "fact", "()I"⟩
abbrev cX13_reads : ByteArray := prog_15_method_14_code
def yX13_reads : MethodName := ⟨RX13, "reads", "()Z"⟩
abbrev cX13_opens : ByteArray := prog_15_method_15_code
def yX13_opens : MethodName := ⟨RX13, "opens", "(I)V"⟩
abbrev cX13_sums : ByteArray := prog_15_method_16_code
def yX13_sums : MethodName := ⟨RX13, "sums", "(I)V"⟩
abbrev cX13_tests : ByteArray := prog_15_method_17_code
def yX13_tests : MethodName := ⟨RX13, "tests", "(I)V"⟩
abbrev cX13_worked : ByteArray := prog_15_method_18_code
def yX13_worked : MethodName := ⟨RX13, "worked", "(I)I"⟩
abbrev cX13_isKept : ByteArray := prog_15_method_19_code
def yX13_isKept : MethodName := ⟨RX13, "isKept", "()Z"⟩
abbrev cX13_writerNamed : ByteArray := prog_15_method_20_code
def yX13_writerNamed : MethodName := ⟨RX13, "writerNamed", "()I"⟩
abbrev cX13_wordNamed : ByteArray := prog_15_method_21_code
def yX13_wordNamed : MethodName := ⟨RX13, "wordNamed", "(I)I"⟩
abbrev cX13_needsNumber : ByteArray := prog_15_method_22_code
def yX13_needsNumber : MethodName := ⟨RX13, "needsNumber", "(II)Z"⟩
abbrev cX13_needsBoth : ByteArray := prog_15_method_23_code
def yX13_needsBoth : MethodName := ⟨RX13, "needsBoth", "(JII)Z"⟩
abbrev cX13_closes : ByteArray := prog_15_method_24_code
def yX13_closes : MethodName := ⟨RX13, "closes", "()Z"⟩
abbrev cX13_needsNew : ByteArray := prog_15_method_25_code
def yX13_needsNew : MethodName := ⟨RX13, "needsNew", "()Z"⟩
abbrev cX13_needsToldWord : ByteArray := prog_15_method_26_code
def yX13_needsToldWord : MethodName := ⟨RX13, "needsToldWord", "(I)Z"⟩
abbrev cX13_readsWriter : ByteArray := prog_15_method_27_code
def yX13_readsWriter : MethodName := ⟨RX13, "readsWriter", "()Z"⟩
abbrev cX13_readsWord : ByteArray := prog_15_method_28_code
def yX13_readsWord : MethodName := ⟨RX13, "readsWord", "()Z"⟩
abbrev cX13_readsLikes : ByteArray := prog_15_method_29_code
def yX13_readsLikes : MethodName := ⟨RX13, "readsLikes", "()Z"⟩
abbrev cX13_readsClash : ByteArray := prog_15_method_30_code
def yX13_readsClash : MethodName := ⟨RX13, "readsClash", "()Z"⟩
abbrev cX13_readsFolds : ByteArray := prog_15_method_31_code
def yX13_readsFolds : MethodName := ⟨RX13, "readsFolds", "()Z"⟩
abbrev cX13_readsLaw : ByteArray := prog_15_method_32_code
def yX13_readsLaw : MethodName := ⟨RX13, "readsLaw", "(I)Z"⟩
abbrev cX13_begins : ByteArray := prog_15_method_33_code
def yX13_begins : MethodName := ⟨RX13, "begins", "()V"⟩
abbrev cX13_readsAll : ByteArray := prog_15_method_34_code
def yX13_readsAll : MethodName := ⟨RX13, "readsAll", "()Z"⟩
abbrev cX13_shifts : ByteArray := prog_15_method_35_code
def yX13_shifts : MethodName := ⟨RX13, "shifts", "([II)V"⟩
abbrev cX13_lays : ByteArray := prog_15_method_36_code
def yX13_lays : MethodName := ⟨RX13, "lays", "()V"⟩
abbrev cX13_copies : ByteArray := prog_15_method_37_code
def yX13_copies : MethodName := ⟨RX13, "copies", "([II[II)V"⟩
abbrev cX13_readsLine : ByteArray := prog_15_method_38_code
def yX13_readsLine : MethodName := ⟨RX13, "readsLine", "()Z"⟩
abbrev cX13_laysLines : ByteArray := prog_15_method_39_code
def yX13_laysLines : MethodName := ⟨RX13, "laysLines", "(II)V"⟩
abbrev cX13_laysRead : ByteArray := prog_15_method_40_code
def yX13_laysRead : MethodName := ⟨RX13, "laysRead", "(II)V"⟩
abbrev cX13_fresh : ByteArray := prog_15_method_41_code
def yX13_fresh : MethodName := ⟨RX13, "fresh", "()V"⟩
abbrev cX13_realm : ByteArray := prog_15_method_42_code
def yX13_realm : MethodName := ⟨RX13, "realm", "()I"⟩
abbrev cX13_sundays : ByteArray := prog_15_method_43_code
def yX13_sundays : MethodName := ⟨RX13, "sundays", "()I"⟩
abbrev cX13_isWriter : ByteArray := prog_15_method_44_code
def yX13_isWriter : MethodName := ⟨RX13, "isWriter", "(I)Z"⟩
abbrev cX13_isTold : ByteArray := prog_15_method_45_code
def yX13_isTold : MethodName := ⟨RX13, "isTold", "(I)Z"⟩
abbrev cX13_writerOf : ByteArray := prog_15_method_46_code
def yX13_writerOf : MethodName := ⟨RX13, "writerOf", "(II)I"⟩
abbrev cX13_likelyBy : ByteArray := prog_15_method_47_code
def yX13_likelyBy : MethodName := ⟨RX13, "likelyBy", "(III)I"⟩
abbrev cX13_aheadOf : ByteArray := prog_15_method_48_code
def yX13_aheadOf : MethodName := ⟨RX13, "aheadOf", "(I)I"⟩
abbrev cX13_likelyNow : ByteArray := prog_15_method_49_code
def yX13_likelyNow : MethodName := ⟨RX13, "likelyNow", "(I)I"⟩
abbrev cX13_allLikely : ByteArray := prog_15_method_50_code
def yX13_allLikely : MethodName := ⟨RX13, "allLikely", "(III)I"⟩
abbrev cX13_doesBy : ByteArray := prog_15_method_51_code
def yX13_doesBy : MethodName := ⟨RX13, "doesBy", "(II)I"⟩
abbrev cX13_writer : ByteArray := prog_15_method_52_code
def yX13_writer : MethodName := ⟨RX13, "writer", "(II)I"⟩
abbrev cX13_word : ByteArray := prog_15_method_53_code
def yX13_word : MethodName := ⟨RX13, "word", "(II)I"⟩
abbrev cX13_strip : ByteArray := prog_15_method_54_code
def yX13_strip : MethodName := ⟨RX13, "strip", "(I)I"⟩
abbrev cX13_spike : ByteArray := prog_15_method_55_code
def yX13_spike : MethodName := ⟨RX13, "spike", "(II)I"⟩
abbrev cX13_keeps : ByteArray := prog_15_method_56_code
def yX13_keeps : MethodName := ⟨RX13, "keeps", "()V"⟩
abbrev cX13_canWrite : ByteArray := prog_15_method_57_code
def yX13_canWrite : MethodName := ⟨RX13, "canWrite", "(I)Z"⟩
abbrev cX13_fallsOff : ByteArray := prog_15_method_58_code
def yX13_fallsOff : MethodName := ⟨RX13, "fallsOff", "(I)V"⟩
abbrev cX13_ends : ByteArray := prog_15_method_59_code
def yX13_ends : MethodName := ⟨RX13, "ends", "()V"⟩
abbrev cX13_laysWord : ByteArray := prog_15_method_60_code
def yX13_laysWord : MethodName := ⟨RX13, "laysWord", "(I)V"⟩
abbrev cX13_burns : ByteArray := prog_15_method_61_code
def yX13_burns : MethodName := ⟨RX13, "burns", "(I)V"⟩
abbrev cX13_canPass : ByteArray := prog_15_method_62_code
def yX13_canPass : MethodName := ⟨RX13, "canPass", "()Z"⟩
abbrev cX13_write : ByteArray := prog_15_method_63_code
def yX13_write : MethodName := ⟨RX13, "write", "(I)I"⟩
abbrev cX13_pass : ByteArray := prog_15_method_64_code
def yX13_pass : MethodName := ⟨RX13, "pass", "()I"⟩
abbrev cX13_burn : ByteArray := prog_15_method_65_code
def yX13_burn : MethodName := ⟨RX13, "burn", "(I)I"⟩
abbrev cX13_undo : ByteArray := prog_15_method_66_code
def yX13_undo : MethodName := ⟨RX13, "undo", "()Z"⟩
abbrev cX13_wordsOf : ByteArray := prog_15_method_67_code
def yX13_wordsOf : MethodName := ⟨RX13, "wordsOf", "(I)I"⟩
abbrev cX13_doClash : ByteArray := prog_15_method_68_code
def yX13_doClash : MethodName := ⟨RX13, "doClash", "(II)Z"⟩
abbrev cX13_clashesOf : ByteArray := prog_15_method_69_code
def yX13_clashesOf : MethodName := ⟨RX13, "clashesOf", "(I)I"⟩
abbrev cX13_allWholes : ByteArray := prog_15_method_70_code
def yX13_allWholes : MethodName := ⟨RX13, "allWholes", "()I"⟩
abbrev cX13_goes : ByteArray := prog_15_method_71_code
def yX13_goes : MethodName := ⟨RX13, "goes", "(I)Z"⟩
abbrev cX13_doesLastClash : ByteArray := prog_15_method_72_code
def yX13_doesLastClash : MethodName := ⟨RX13, "doesLastClash", "()Z"⟩
abbrev cX13_judged : ByteArray := prog_15_method_73_code
def yX13_judged : MethodName := ⟨RX13, "judged", "(I)I"⟩
abbrev cX13_goesOn : ByteArray := prog_15_method_74_code
def yX13_goesOn : MethodName := ⟨RX13, "goesOn", "(III)Z"⟩
abbrev cX13_wordIn : ByteArray := prog_15_method_75_code
def yX13_wordIn : MethodName := ⟨RX13, "wordIn", "(II)I"⟩
abbrev cX13_comes : ByteArray := prog_15_method_76_code
def yX13_comes : MethodName := ⟨RX13, "comes", "(I)I"⟩
abbrev cX13_endsRow : ByteArray := prog_15_method_77_code
def yX13_endsRow : MethodName := ⟨RX13, "endsRow", "(II)V"⟩
abbrev cX13_rows : ByteArray := prog_15_method_78_code
def yX13_rows : MethodName := ⟨RX13, "rows", "(IIII)V"⟩
abbrev cX13_laysRows : ByteArray := prog_15_method_79_code
def yX13_laysRows : MethodName := ⟨RX13, "laysRows", "()V"⟩
abbrev cX13_best : ByteArray := prog_15_method_80_code
def yX13_best : MethodName := ⟨RX13, "best", "(I)I"⟩
abbrev cX13_worst : ByteArray := prog_15_method_81_code
def yX13_worst : MethodName := ⟨RX13, "worst", "()I"⟩
abbrev cX13_mean : ByteArray := prog_15_method_82_code
def yX13_mean : MethodName := ⟨RX13, "mean", "()I"⟩
abbrev cX13_noneOnly : ByteArray := prog_15_method_83_code
def yX13_noneOnly : MethodName := ⟨RX13, "noneOnly", "()V"⟩
abbrev cX13_goesOnAt : ByteArray := prog_15_method_84_code
def yX13_goesOnAt : MethodName := ⟨RX13, "goesOnAt", "(II)Z"⟩
abbrev cX13_sharesFrom : ByteArray := prog_15_method_85_code
def yX13_sharesFrom : MethodName := ⟨RX13, "sharesFrom", "(IIII)V"⟩
abbrev cX13_sharesOut : ByteArray := prog_15_method_86_code
def yX13_sharesOut : MethodName := ⟨RX13, "sharesOut", "(III)I"⟩
abbrev cX13_aim : ByteArray := prog_15_method_87_code
def yX13_aim : MethodName := ⟨RX13, "aim", "(II)I"⟩
abbrev cX13_meet : ByteArray := prog_15_method_88_code
def yX13_meet : MethodName := ⟨RX13, "meet", "(III)I"⟩
abbrev cX13_clashes : ByteArray := prog_15_method_89_code
def yX13_clashes : MethodName := ⟨RX13, "clashes", "()I"⟩
abbrev cX13_fire : ByteArray := prog_15_method_90_code
def yX13_fire : MethodName := ⟨RX13, "fire", "()I"⟩
abbrev cX13_read : ByteArray := prog_15_method_91_code
def yX13_read : MethodName := ⟨RX13, "read", "(I)Z"⟩
abbrev cX13_laysOnly : ByteArray := prog_15_method_92_code
def yX13_laysOnly : MethodName := ⟨RX13, "laysOnly", "()Z"⟩
abbrev cX13_beganBy : ByteArray := prog_15_method_93_code
def yX13_beganBy : MethodName := ⟨RX13, "beganBy", "()I"⟩
abbrev cX13_began : ByteArray := prog_15_method_94_code
def yX13_began : MethodName := ⟨RX13, "began", "()I"⟩
abbrev cX13_sure : ByteArray := prog_15_method_95_code
def yX13_sure : MethodName := ⟨RX13, "sure", "()I"⟩
abbrev cX13_likeliest : ByteArray := prog_15_method_96_code
def yX13_likeliest : MethodName := ⟨RX13, "likeliest", "(II)I"⟩
abbrev cX13_ask : ByteArray := prog_15_method_97_code
def yX13_ask : MethodName := ⟨RX13, "ask", "()I"⟩
abbrev cX13_spent : ByteArray := prog_15_method_98_code
def yX13_spent : MethodName := ⟨RX13, "spent", "()I"⟩
abbrev cX13_getsBy : ByteArray := prog_15_method_99_code
def yX13_getsBy : MethodName := ⟨RX13, "getsBy", "(IIIII)I"⟩
abbrev cX13_rests : ByteArray := prog_15_method_100_code
def yX13_rests : MethodName := ⟨RX13, "rests", "(IIII)I"⟩
abbrev cX13_draws : ByteArray := prog_15_method_101_code
def yX13_draws : MethodName := ⟨RX13, "draws", "(I)I"⟩
abbrev cX13_livesWord : ByteArray := prog_15_method_102_code
def yX13_livesWord : MethodName := ⟨RX13, "livesWord", "()Z"⟩
abbrev cX13_generations : ByteArray := prog_15_method_103_code
def yX13_generations : MethodName := ⟨RX13, "generations", "(III)I"⟩
abbrev cX13_mark : ByteArray := prog_15_method_104_code
def yX13_mark : MethodName := ⟨RX13, "mark", "(IZ)Z"⟩
abbrev cX13_allLeft : ByteArray := prog_15_method_105_code
def yX13_allLeft : MethodName := ⟨RX13, "allLeft", "()I"⟩
abbrev cX13_count : ByteArray := prog_15_method_106_code
def yX13_count : MethodName := ⟨RX13, "count", "(I)I"⟩
def RJx145de : String := "java/io/Serializable"
def TJx145de : u_T := fun k => match k with
  | _ => ("", "", "", false)
def tyJx145de : Nat → FieldType := fun k => match k with
  | _ => .int
abbrev wsJx145de0 : List Cond := u_ws RJx145de TJx145de 0
theorem nmJx145de : ∀ a, a < 0 → ∀ b, b < 0 → a ≠ b → (TJx145de a).2.1 ≠ (TJx145de b).2.1 := by decide +kernel
theorem tyJx145de_ok : ∀ k, k < 0 → parseFieldDescriptor (TJx145de k).2.2.1 = some (tyJx145de k) := by decide +kernel
def RJx9f9b0 : String := "java/lang/CharSequence"
def TJx9f9b0 : u_T := fun k => match k with
  | _ => ("", "", "", false)
def tyJx9f9b0 : Nat → FieldType := fun k => match k with
  | _ => .int
abbrev wsJx9f9b00 : List Cond := u_ws RJx9f9b0 TJx9f9b0 0
theorem nmJx9f9b0 : ∀ a, a < 0 → ∀ b, b < 0 → a ≠ b → (TJx9f9b0 a).2.1 ≠ (TJx9f9b0 b).2.1 := by decide +kernel
theorem tyJx9f9b0_ok : ∀ k, k < 0 → parseFieldDescriptor (TJx9f9b0 k).2.2.1 = some (tyJx9f9b0 k) := by decide +kernel
def RJxb160c : String := "java/lang/Comparable"
def TJxb160c : u_T := fun k => match k with
  | _ => ("", "", "", false)
def tyJxb160c : Nat → FieldType := fun k => match k with
  | _ => .int
abbrev wsJxb160c0 : List Cond := u_ws RJxb160c TJxb160c 0
theorem nmJxb160c : ∀ a, a < 0 → ∀ b, b < 0 → a ≠ b → (TJxb160c a).2.1 ≠ (TJxb160c b).2.1 := by decide +kernel
theorem tyJxb160c_ok : ∀ k, k < 0 → parseFieldDescriptor (TJxb160c k).2.2.1 = some (tyJxb160c k) := by decide +kernel
def RJx29ce0 : String := "java/lang/Enum"
def TJx29ce0 : u_T := fun k => match k with
  | _ => ("", "", "", false)
def tyJx29ce0 : Nat → FieldType := fun k => match k with
  | _ => .int
abbrev wsJx29ce00 : List Cond := u_ws RJx29ce0 TJx29ce0 0
theorem nmJx29ce0 : ∀ a, a < 0 → ∀ b, b < 0 → a ≠ b → (TJx29ce0 a).2.1 ≠ (TJx29ce0 b).2.1 := by decide +kernel
theorem tyJx29ce0_ok : ∀ k, k < 0 → parseFieldDescriptor (TJx29ce0 k).2.2.1 = some (tyJx29ce0 k) := by decide +kernel
abbrev cJx29ce0_ordinal_8abf5 : ByteArray := prog_19_method_2_code
def yJx29ce0_ordinal_8abf5 : MethodName := ⟨RJx29ce0, "ordinal", "()I"⟩
def RJ6 : String := "java/lang/Integer"
def TJ6 : u_T := fun k => match k with
  | _ => ("", "", "", false)
def tyJ6 : Nat → FieldType := fun k => match k with
  | _ => .int
abbrev wsJ60 : List Cond := u_ws RJ6 TJ6 0
theorem nmJ6 : ∀ a, a < 0 → ∀ b, b < 0 → a ≠ b → (TJ6 a).2.1 ≠ (TJ6 b).2.1 := by decide +kernel
theorem tyJ6_ok : ∀ k, k < 0 → parseFieldDescriptor (TJ6 k).2.2.1 = some (tyJ6 k) := by decide +kernel
abbrev cJ6_bitCount_0f7a4 : ByteArray := prog_21_method_49_code
def yJ6_bitCount_0f7a4 : MethodName := ⟨RJ6, "bitCount", "(I)I"⟩
def RJ9 : String := "java/lang/Math"
def TJ9 : u_T := fun k => match k with
  | _ => ("", "", "", false)
def tyJ9 : Nat → FieldType := fun k => match k with
  | _ => .int
abbrev wsJ90 : List Cond := u_ws RJ9 TJ9 0
theorem nmJ9 : ∀ a, a < 0 → ∀ b, b < 0 → a ≠ b → (TJ9 a).2.1 ≠ (TJ9 b).2.1 := by decide +kernel
theorem tyJ9_ok : ∀ k, k < 0 → parseFieldDescriptor (TJ9 k).2.2.1 = some (tyJ9 k) := by decide +kernel
abbrev cJ9_floorMod_7cf53 : ByteArray := prog_22_method_50_code
def yJ9_floorMod_7cf53 : MethodName := ⟨RJ9, "floorMod", "(II)I"⟩
abbrev cJ9_max_7cf53 : ByteArray := prog_22_method_65_code
def yJ9_max_7cf53 : MethodName := ⟨RJ9, "max", "(II)I"⟩
abbrev cJ9_min_7cf53 : ByteArray := prog_22_method_69_code
def yJ9_min_7cf53 : MethodName := ⟨RJ9, "min", "(II)I"⟩
def RJ0 : String := "java/lang/String"
def TJ0 : u_T := fun k => match k with
  | _ => ("", "", "", false)
def tyJ0 : Nat → FieldType := fun k => match k with
  | _ => .int
abbrev wsJ00 : List Cond := u_ws RJ0 TJ0 0
theorem nmJ0 : ∀ a, a < 0 → ∀ b, b < 0 → a ≠ b → (TJ0 a).2.1 ≠ (TJ0 b).2.1 := by decide +kernel
theorem tyJ0_ok : ∀ k, k < 0 → parseFieldDescriptor (TJ0 k).2.2.1 = some (tyJ0 k) := by decide +kernel
abbrev cJ0_length_8abf5 : ByteArray := prog_24_method_54_code
def yJ0_length_8abf5 : MethodName := ⟨RJ0, "length", "()I"⟩
abbrev cJ0_charAt_5068e : ByteArray := prog_24_method_56_code
def yJ0_charAt_5068e : MethodName := ⟨RJ0, "charAt", "(I)C"⟩
abbrev cJ0_coder_7d493 : ByteArray := prog_24_method_152_code
def yJ0_coder_7d493 : MethodName := ⟨RJ0, "coder", "()B"⟩
abbrev cJ0_isLatin1_aae02 : ByteArray := prog_24_method_154_code
def yJ0_isLatin1_aae02 : MethodName := ⟨RJ0, "isLatin1", "()Z"⟩
abbrev cJ0_checkIndex_df160 : ByteArray := prog_24_method_155_code
def yJ0_checkIndex_df160 : MethodName := ⟨RJ0, "checkIndex", "(II)V"⟩
def RJ1 : String := "java/lang/StringLatin1"
def TJ1 : u_T := fun k => match k with
  | _ => ("", "", "", false)
def tyJ1 : Nat → FieldType := fun k => match k with
  | _ => .int
abbrev wsJ10 : List Cond := u_ws RJ1 TJ1 0
theorem nmJ1 : ∀ a, a < 0 → ∀ b, b < 0 → a ≠ b → (TJ1 a).2.1 ≠ (TJ1 b).2.1 := by decide +kernel
theorem tyJ1_ok : ∀ k, k < 0 → parseFieldDescriptor (TJ1 k).2.2.1 = some (tyJ1 k) := by decide +kernel
abbrev cJ1_charAt_3b067 : ByteArray := prog_25_method_2_code
def yJ1_charAt_3b067 : MethodName := ⟨RJ1, "charAt", "([BI)C"⟩
def RJ2 : String := "java/lang/StringUTF16"
def TJ2 : u_T := fun k => match k with
  | _ => ("", "", "", false)
def tyJ2 : Nat → FieldType := fun k => match k with
  | _ => .int
abbrev wsJ20 : List Cond := u_ws RJ2 TJ2 0
theorem nmJ2 : ∀ a, a < 0 → ∀ b, b < 0 → a ≠ b → (TJ2 a).2.1 ≠ (TJ2 b).2.1 := by decide +kernel
theorem tyJ2_ok : ∀ k, k < 0 → parseFieldDescriptor (TJ2 k).2.2.1 = some (tyJ2 k) := by decide +kernel
abbrev cJ2_getChar_3b067 : ByteArray := prog_26_method_5_code
def yJ2_getChar_3b067 : MethodName := ⟨RJ2, "getChar", "([BI)C"⟩
abbrev cJ2_length_9d52b : ByteArray := prog_26_method_6_code
def yJ2_length_9d52b : MethodName := ⟨RJ2, "length", "([B)I"⟩
abbrev cJ2_charAt_3b067 : ByteArray := prog_26_method_83_code
def yJ2_charAt_3b067 : MethodName := ⟨RJ2, "charAt", "([BI)C"⟩
abbrev cJ2_checkIndex_2214a : ByteArray := prog_26_method_91_code
def yJ2_checkIndex_2214a : MethodName := ⟨RJ2, "checkIndex", "(I[B)V"⟩
def RJ10 : String := "java/lang/System"
def TJ10 : u_T := fun k => match k with
  | _ => ("", "", "", false)
def tyJ10 : Nat → FieldType := fun k => match k with
  | _ => .int
abbrev wsJ100 : List Cond := u_ws RJ10 TJ10 0
theorem nmJ10 : ∀ a, a < 0 → ∀ b, b < 0 → a ≠ b → (TJ10 a).2.1 ≠ (TJ10 b).2.1 := by decide +kernel
theorem tyJ10_ok : ∀ k, k < 0 → parseFieldDescriptor (TJ10 k).2.2.1 = some (tyJ10 k) := by decide +kernel
def RJxfd54e : String := "java/lang/constant/Constable"
def TJxfd54e : u_T := fun k => match k with
  | _ => ("", "", "", false)
def tyJxfd54e : Nat → FieldType := fun k => match k with
  | _ => .int
abbrev wsJxfd54e0 : List Cond := u_ws RJxfd54e TJxfd54e 0
theorem nmJxfd54e : ∀ a, a < 0 → ∀ b, b < 0 → a ≠ b → (TJxfd54e a).2.1 ≠ (TJxfd54e b).2.1 := by decide +kernel
theorem tyJxfd54e_ok : ∀ k, k < 0 → parseFieldDescriptor (TJxfd54e k).2.2.1 = some (tyJxfd54e k) := by decide +kernel
def RJx3cf43 : String := "java/lang/constant/ConstantDesc"
def TJx3cf43 : u_T := fun k => match k with
  | _ => ("", "", "", false)
def tyJx3cf43 : Nat → FieldType := fun k => match k with
  | _ => .int
abbrev wsJx3cf430 : List Cond := u_ws RJx3cf43 TJx3cf43 0
theorem nmJx3cf43 : ∀ a, a < 0 → ∀ b, b < 0 → a ≠ b → (TJx3cf43 a).2.1 ≠ (TJx3cf43 b).2.1 := by decide +kernel
theorem tyJx3cf43_ok : ∀ k, k < 0 → parseFieldDescriptor (TJx3cf43 k).2.2.1 = some (tyJx3cf43 k) := by decide +kernel
def RJ3 : String := "jdk/internal/util/Preconditions"
def TJ3 : u_T := fun k => match k with
  | _ => ("", "", "", false)
def tyJ3 : Nat → FieldType := fun k => match k with
  | _ => .int
abbrev wsJ30 : List Cond := u_ws RJ3 TJ3 0
theorem nmJ3 : ∀ a, a < 0 → ∀ b, b < 0 → a ≠ b → (TJ3 a).2.1 ≠ (TJ3 b).2.1 := by decide +kernel
theorem tyJ3_ok : ∀ k, k < 0 → parseFieldDescriptor (TJ3 k).2.2.1 = some (tyJ3 k) := by decide +kernel
abbrev cJ3_checkIndex_8e157 : ByteArray := prog_32_method_11_code
def yJ3_checkIndex_8e157 : MethodName := ⟨RJ3, "checkIndex", "(IILjava/util/function/BiFunction;)I"⟩
def RL : String := "FoldedRealmLaw"
abbrev cL_rests : ByteArray := method_3_code
def yL_rests : MethodName := ⟨RL, "rests", "(LFoldedRealm;IIII[J)I"⟩
abbrev cL_law : ByteArray := code
def yL_law : MethodName := ⟨RL, "law", "([I)Z"⟩
end
section
/-! the words that every method is given: the good ones of the tables; where they stand, by a program -/
def aWS : List Cond := lw_tbl.filter goodWord
theorem aWS_in : ∀ w ∈ aWS, w ∈ lw_tbl := fun _ h => (List.mem_filter.mp h).1
theorem aWS_goodIn {big : List Cond} (hb : ∀ w ∈ aWS, w ∈ big) {ws : List Cond} (hw : ∀ w ∈ ws, w ∈ aWS) : GoodIn big ws := fun w h => ⟨hb w (hw w h), good_of_word (List.mem_filter.mp (hw w h)).2⟩
theorem aW_t (i : Nat) {w : Cond} (h : tables_1[i]? = some w) (g : goodWord w = true) : w ∈ aWS := List.mem_filter.mpr ⟨List.mem_append_right _ (List.mem_of_getElem? h), g⟩
theorem aW_s (i : Nat) {w : Cond} (h : (k2_sels lw_privs)[i]? = some w) (g : goodWord w = true) : w ∈ aWS := List.mem_filter.mpr ⟨List.mem_append_left _ (List.mem_of_getElem? h), g⟩
theorem inWX1 : ∀ w ∈ wsX10, w ∈ aWS := by
  have h : ∀ k, k < 6 → u_lay RX1 TX1 k ∈ aWS := by
    intro k hk
    match k, hk with
    | 0, _ => exact aW_t 128 (by decide +kernel) (by decide +kernel)
    | 1, _ => exact aW_t 130 (by decide +kernel) (by decide +kernel)
    | 2, _ => exact aW_t 132 (by decide +kernel) (by decide +kernel)
    | 3, _ => exact aW_t 134 (by decide +kernel) (by decide +kernel)
    | 4, _ => exact aW_t 136 (by decide +kernel) (by decide +kernel)
    | 5, _ => exact aW_t 138 (by decide +kernel) (by decide +kernel)
  intro w hw
  obtain ⟨k, hk, rfl⟩ := List.mem_map.mp hw
  exact h k (List.mem_range.mp hk)
theorem inWX2 : ∀ w ∈ wsX20, w ∈ aWS := by
  have h : ∀ k, k < 1 → u_lay RX2 TX2 k ∈ aWS := by
    intro k hk
    match k, hk with
    | 0, _ => exact aW_t 89 (by decide +kernel) (by decide +kernel)
  intro w hw
  obtain ⟨k, hk, rfl⟩ := List.mem_map.mp hw
  exact h k (List.mem_range.mp hk)
theorem inWX3 : ∀ w ∈ wsX30, w ∈ aWS := by
  have h : ∀ k, k < 3 → u_lay RX3 TX3 k ∈ aWS := by
    intro k hk
    match k, hk with
    | 0, _ => exact aW_t 294 (by decide +kernel) (by decide +kernel)
    | 1, _ => exact aW_t 296 (by decide +kernel) (by decide +kernel)
    | 2, _ => exact aW_t 298 (by decide +kernel) (by decide +kernel)
  intro w hw
  obtain ⟨k, hk, rfl⟩ := List.mem_map.mp hw
  exact h k (List.mem_range.mp hk)
theorem inWX4 : ∀ w ∈ wsX40, w ∈ aWS := by
  have h : ∀ k, k < 7 → u_lay RX4 TX4 k ∈ aWS := by
    intro k hk
    match k, hk with
    | 0, _ => exact aW_t 318 (by decide +kernel) (by decide +kernel)
    | 1, _ => exact aW_t 320 (by decide +kernel) (by decide +kernel)
    | 2, _ => exact aW_t 322 (by decide +kernel) (by decide +kernel)
    | 3, _ => exact aW_t 324 (by decide +kernel) (by decide +kernel)
    | 4, _ => exact aW_t 326 (by decide +kernel) (by decide +kernel)
    | 5, _ => exact aW_t 328 (by decide +kernel) (by decide +kernel)
    | 6, _ => exact aW_t 330 (by decide +kernel) (by decide +kernel)
  intro w hw
  obtain ⟨k, hk, rfl⟩ := List.mem_map.mp hw
  exact h k (List.mem_range.mp hk)
theorem inWX5 : ∀ w ∈ wsX50, w ∈ aWS := by
  have h : ∀ k, k < 6 → u_lay RX5 TX5 k ∈ aWS := by
    intro k hk
    match k, hk with
    | 0, _ => exact aW_t 267 (by decide +kernel) (by decide +kernel)
    | 1, _ => exact aW_t 269 (by decide +kernel) (by decide +kernel)
    | 2, _ => exact aW_t 271 (by decide +kernel) (by decide +kernel)
    | 3, _ => exact aW_t 273 (by decide +kernel) (by decide +kernel)
    | 4, _ => exact aW_t 275 (by decide +kernel) (by decide +kernel)
    | 5, _ => exact aW_t 277 (by decide +kernel) (by decide +kernel)
  intro w hw
  obtain ⟨k, hk, rfl⟩ := List.mem_map.mp hw
  exact h k (List.mem_range.mp hk)
theorem inWX6 : ∀ w ∈ wsX60, w ∈ aWS := by
  have h : ∀ k, k < 4 → u_lay RX6 TX6 k ∈ aWS := by
    intro k hk
    match k, hk with
    | 0, _ => exact aW_t 99 (by decide +kernel) (by decide +kernel)
    | 1, _ => exact aW_t 101 (by decide +kernel) (by decide +kernel)
    | 2, _ => exact aW_t 103 (by decide +kernel) (by decide +kernel)
    | 3, _ => exact aW_t 105 (by decide +kernel) (by decide +kernel)
  intro w hw
  obtain ⟨k, hk, rfl⟩ := List.mem_map.mp hw
  exact h k (List.mem_range.mp hk)
theorem inWX7 : ∀ w ∈ wsX70, w ∈ aWS := by
  have h : ∀ k, k < 16 → u_lay RX7 TX7 k ∈ aWS := by
    intro k hk
    match k, hk with
    | 0, _ => exact aW_t 183 (by decide +kernel) (by decide +kernel)
    | 1, _ => exact aW_t 185 (by decide +kernel) (by decide +kernel)
    | 2, _ => exact aW_t 187 (by decide +kernel) (by decide +kernel)
    | 3, _ => exact aW_t 189 (by decide +kernel) (by decide +kernel)
    | 4, _ => exact aW_t 191 (by decide +kernel) (by decide +kernel)
    | 5, _ => exact aW_t 193 (by decide +kernel) (by decide +kernel)
    | 6, _ => exact aW_t 195 (by decide +kernel) (by decide +kernel)
    | 7, _ => exact aW_t 197 (by decide +kernel) (by decide +kernel)
    | 8, _ => exact aW_t 199 (by decide +kernel) (by decide +kernel)
    | 9, _ => exact aW_t 201 (by decide +kernel) (by decide +kernel)
    | 10, _ => exact aW_t 203 (by decide +kernel) (by decide +kernel)
    | 11, _ => exact aW_t 205 (by decide +kernel) (by decide +kernel)
    | 12, _ => exact aW_t 207 (by decide +kernel) (by decide +kernel)
    | 13, _ => exact aW_t 209 (by decide +kernel) (by decide +kernel)
    | 14, _ => exact aW_t 211 (by decide +kernel) (by decide +kernel)
    | 15, _ => exact aW_t 213 (by decide +kernel) (by decide +kernel)
    | k + 16, hk => exact absurd hk (by omega)
  intro w hw
  obtain ⟨k, hk, rfl⟩ := List.mem_map.mp hw
  exact h k (List.mem_range.mp hk)
theorem inWX8 : ∀ w ∈ wsX80, w ∈ aWS := by
  have h : ∀ k, k < 1 → u_lay RX8 TX8 k ∈ aWS := by
    intro k hk
    match k, hk with
    | 0, _ => exact aW_t 340 (by decide +kernel) (by decide +kernel)
  intro w hw
  obtain ⟨k, hk, rfl⟩ := List.mem_map.mp hw
  exact h k (List.mem_range.mp hk)
theorem inWX10 : ∀ w ∈ wsX100, w ∈ aWS := by
  have h : ∀ k, k < 7 → u_lay RX10 TX10 k ∈ aWS := by
    intro k hk
    match k, hk with
    | 0, _ => exact aW_t 242 (by decide +kernel) (by decide +kernel)
    | 1, _ => exact aW_t 244 (by decide +kernel) (by decide +kernel)
    | 2, _ => exact aW_t 246 (by decide +kernel) (by decide +kernel)
    | 3, _ => exact aW_t 248 (by decide +kernel) (by decide +kernel)
    | 4, _ => exact aW_t 250 (by decide +kernel) (by decide +kernel)
    | 5, _ => exact aW_t 252 (by decide +kernel) (by decide +kernel)
    | 6, _ => exact aW_t 254 (by decide +kernel) (by decide +kernel)
  intro w hw
  obtain ⟨k, hk, rfl⟩ := List.mem_map.mp hw
  exact h k (List.mem_range.mp hk)
theorem inWX11 : ∀ w ∈ wsX110, w ∈ aWS := by
  have h : ∀ k, k < 8 → u_lay RX11 TX11 k ∈ aWS := by
    intro k hk
    match k, hk with
    | 0, _ => exact aW_t 58 (by decide +kernel) (by decide +kernel)
    | 1, _ => exact aW_t 60 (by decide +kernel) (by decide +kernel)
    | 2, _ => exact aW_t 62 (by decide +kernel) (by decide +kernel)
    | 3, _ => exact aW_t 64 (by decide +kernel) (by decide +kernel)
    | 4, _ => exact aW_t 66 (by decide +kernel) (by decide +kernel)
    | 5, _ => exact aW_t 68 (by decide +kernel) (by decide +kernel)
    | 6, _ => exact aW_t 70 (by decide +kernel) (by decide +kernel)
    | 7, _ => exact aW_t 72 (by decide +kernel) (by decide +kernel)
  intro w hw
  obtain ⟨k, hk, rfl⟩ := List.mem_map.mp hw
  exact h k (List.mem_range.mp hk)
theorem inWX12 : ∀ w ∈ wsX120, w ∈ aWS := by
  have h : ∀ k, k < 12 → u_lay RX12 TX12 k ∈ aWS := by
    intro k hk
    match k, hk with
    | 0, _ => exact aW_t 366 (by decide +kernel) (by decide +kernel)
    | 1, _ => exact aW_t 368 (by decide +kernel) (by decide +kernel)
    | 2, _ => exact aW_t 370 (by decide +kernel) (by decide +kernel)
    | 3, _ => exact aW_t 372 (by decide +kernel) (by decide +kernel)
    | 4, _ => exact aW_t 374 (by decide +kernel) (by decide +kernel)
    | 5, _ => exact aW_t 376 (by decide +kernel) (by decide +kernel)
    | 6, _ => exact aW_t 378 (by decide +kernel) (by decide +kernel)
    | 7, _ => exact aW_t 380 (by decide +kernel) (by decide +kernel)
    | 8, _ => exact aW_t 382 (by decide +kernel) (by decide +kernel)
    | 9, _ => exact aW_t 384 (by decide +kernel) (by decide +kernel)
    | 10, _ => exact aW_t 386 (by decide +kernel) (by decide +kernel)
    | 11, _ => exact aW_t 388 (by decide +kernel) (by decide +kernel)
  intro w hw
  obtain ⟨k, hk, rfl⟩ := List.mem_map.mp hw
  exact h k (List.mem_range.mp hk)
theorem inWX13 : ∀ w ∈ wsX130, w ∈ aWS := by
  have h : ∀ k, k < 63 → u_lay RX13 TX13 k ∈ aWS := by
    intro k hk
    match k, hk with
    | 0, _ => exact aW_t 1319 (by decide +kernel) (by decide +kernel)
    | 1, _ => exact aW_t 1321 (by decide +kernel) (by decide +kernel)
    | 2, _ => exact aW_t 1323 (by decide +kernel) (by decide +kernel)
    | 3, _ => exact aW_t 1325 (by decide +kernel) (by decide +kernel)
    | 4, _ => exact aW_t 1327 (by decide +kernel) (by decide +kernel)
    | 5, _ => exact aW_t 1329 (by decide +kernel) (by decide +kernel)
    | 6, _ => exact aW_t 1331 (by decide +kernel) (by decide +kernel)
    | 7, _ => exact aW_t 1333 (by decide +kernel) (by decide +kernel)
    | 8, _ => exact aW_t 1335 (by decide +kernel) (by decide +kernel)
    | 9, _ => exact aW_t 1337 (by decide +kernel) (by decide +kernel)
    | 10, _ => exact aW_t 1339 (by decide +kernel) (by decide +kernel)
    | 11, _ => exact aW_t 1341 (by decide +kernel) (by decide +kernel)
    | 12, _ => exact aW_t 1343 (by decide +kernel) (by decide +kernel)
    | 13, _ => exact aW_t 1345 (by decide +kernel) (by decide +kernel)
    | 14, _ => exact aW_t 1347 (by decide +kernel) (by decide +kernel)
    | 15, _ => exact aW_t 1349 (by decide +kernel) (by decide +kernel)
    | 16, _ => exact aW_t 1351 (by decide +kernel) (by decide +kernel)
    | 17, _ => exact aW_t 1353 (by decide +kernel) (by decide +kernel)
    | 18, _ => exact aW_t 1355 (by decide +kernel) (by decide +kernel)
    | 19, _ => exact aW_t 1357 (by decide +kernel) (by decide +kernel)
    | 20, _ => exact aW_t 1359 (by decide +kernel) (by decide +kernel)
    | 21, _ => exact aW_t 1361 (by decide +kernel) (by decide +kernel)
    | 22, _ => exact aW_t 1363 (by decide +kernel) (by decide +kernel)
    | 23, _ => exact aW_t 1365 (by decide +kernel) (by decide +kernel)
    | 24, _ => exact aW_t 1367 (by decide +kernel) (by decide +kernel)
    | 25, _ => exact aW_t 1369 (by decide +kernel) (by decide +kernel)
    | 26, _ => exact aW_t 1371 (by decide +kernel) (by decide +kernel)
    | 27, _ => exact aW_t 1373 (by decide +kernel) (by decide +kernel)
    | 28, _ => exact aW_t 1375 (by decide +kernel) (by decide +kernel)
    | 29, _ => exact aW_t 1377 (by decide +kernel) (by decide +kernel)
    | 30, _ => exact aW_t 1379 (by decide +kernel) (by decide +kernel)
    | 31, _ => exact aW_t 1381 (by decide +kernel) (by decide +kernel)
    | 32, _ => exact aW_t 1383 (by decide +kernel) (by decide +kernel)
    | 33, _ => exact aW_t 1385 (by decide +kernel) (by decide +kernel)
    | 34, _ => exact aW_t 1387 (by decide +kernel) (by decide +kernel)
    | 35, _ => exact aW_t 1389 (by decide +kernel) (by decide +kernel)
    | 36, _ => exact aW_t 1391 (by decide +kernel) (by decide +kernel)
    | 37, _ => exact aW_t 1393 (by decide +kernel) (by decide +kernel)
    | 38, _ => exact aW_t 1395 (by decide +kernel) (by decide +kernel)
    | 39, _ => exact aW_t 1397 (by decide +kernel) (by decide +kernel)
    | 40, _ => exact aW_t 1399 (by decide +kernel) (by decide +kernel)
    | 41, _ => exact aW_t 1401 (by decide +kernel) (by decide +kernel)
    | 42, _ => exact aW_t 1403 (by decide +kernel) (by decide +kernel)
    | 43, _ => exact aW_t 1405 (by decide +kernel) (by decide +kernel)
    | 44, _ => exact aW_t 1407 (by decide +kernel) (by decide +kernel)
    | 45, _ => exact aW_t 1409 (by decide +kernel) (by decide +kernel)
    | 46, _ => exact aW_t 1411 (by decide +kernel) (by decide +kernel)
    | 47, _ => exact aW_t 1413 (by decide +kernel) (by decide +kernel)
    | 48, _ => exact aW_t 1415 (by decide +kernel) (by decide +kernel)
    | 49, _ => exact aW_t 1417 (by decide +kernel) (by decide +kernel)
    | 50, _ => exact aW_t 1419 (by decide +kernel) (by decide +kernel)
    | 51, _ => exact aW_t 1421 (by decide +kernel) (by decide +kernel)
    | 52, _ => exact aW_t 1423 (by decide +kernel) (by decide +kernel)
    | 53, _ => exact aW_t 1425 (by decide +kernel) (by decide +kernel)
    | 54, _ => exact aW_t 1427 (by decide +kernel) (by decide +kernel)
    | 55, _ => exact aW_t 1429 (by decide +kernel) (by decide +kernel)
    | 56, _ => exact aW_t 1431 (by decide +kernel) (by decide +kernel)
    | 57, _ => exact aW_t 1433 (by decide +kernel) (by decide +kernel)
    | 58, _ => exact aW_t 1435 (by decide +kernel) (by decide +kernel)
    | 59, _ => exact aW_t 1437 (by decide +kernel) (by decide +kernel)
    | 60, _ => exact aW_t 1439 (by decide +kernel) (by decide +kernel)
    | 61, _ => exact aW_t 1441 (by decide +kernel) (by decide +kernel)
    | 62, _ => exact aW_t 1443 (by decide +kernel) (by decide +kernel)
    | k + 63, hk => exact absurd hk (by omega)
  intro w hw
  obtain ⟨k, hk, rfl⟩ := List.mem_map.mp hw
  exact h k (List.mem_range.mp hk)
end
section
/-! the cells that the two constructors make, by their numbers in the order of their making: the system's from 0 on, the reference's from 1000 on; printed by a program out of the constructors' bytecode -/
def akd (i : Nat) : Nat := cond (Nat.ble i 96) (cond (Nat.ble i 47) (cond (Nat.ble i 23) (cond (Nat.ble i 11) (cond (Nat.ble i 5) (cond (Nat.ble i 2) (cond (Nat.ble i 0) (10) (cond (Nat.ble i 1) (9) (22))) (cond (Nat.ble i 3) (5) (cond (Nat.ble i 4) (20) (1)))) (cond (Nat.ble i 8) (cond (Nat.ble i 6) (6) (cond (Nat.ble i 7) (20) (21))) (cond (Nat.ble i 9) (20) (cond (Nat.ble i 10) (20) (20))))) (cond (Nat.ble i 17) (cond (Nat.ble i 14) (cond (Nat.ble i 12) (20) (cond (Nat.ble i 13) (21) (20))) (cond (Nat.ble i 15) (20) (cond (Nat.ble i 16) (20) (0)))) (cond (Nat.ble i 20) (cond (Nat.ble i 18) (20) (cond (Nat.ble i 19) (20) (0))) (cond (Nat.ble i 21) (20) (cond (Nat.ble i 22) (20) (6)))))) (cond (Nat.ble i 35) (cond (Nat.ble i 29) (cond (Nat.ble i 26) (cond (Nat.ble i 24) (20) (cond (Nat.ble i 25) (21) (20))) (cond (Nat.ble i 27) (20) (cond (Nat.ble i 28) (20) (20)))) (cond (Nat.ble i 32) (cond (Nat.ble i 30) (21) (cond (Nat.ble i 31) (20) (20))) (cond (Nat.ble i 33) (20) (cond (Nat.ble i 34) (0) (20))))) (cond (Nat.ble i 41) (cond (Nat.ble i 38) (cond (Nat.ble i 36) (20) (cond (Nat.ble i 37) (0) (20))) (cond (Nat.ble i 39) (20) (cond (Nat.ble i 40) (4) (8)))) (cond (Nat.ble i 44) (cond (Nat.ble i 42) (20) (cond (Nat.ble i 43) (20) (20))) (cond (Nat.ble i 45) (20) (cond (Nat.ble i 46) (24) (2))))))) (cond (Nat.ble i 71) (cond (Nat.ble i 59) (cond (Nat.ble i 53) (cond (Nat.ble i 50) (cond (Nat.ble i 48) (25) (cond (Nat.ble i 49) (8) (20))) (cond (Nat.ble i 51) (20) (cond (Nat.ble i 52) (20) (8)))) (cond (Nat.ble i 56) (cond (Nat.ble i 54) (20) (cond (Nat.ble i 55) (20) (20))) (cond (Nat.ble i 57) (8) (cond (Nat.ble i 58) (20) (20))))) (cond (Nat.ble i 65) (cond (Nat.ble i 62) (cond (Nat.ble i 60) (20) (cond (Nat.ble i 61) (8) (20))) (cond (Nat.ble i 63) (20) (cond (Nat.ble i 64) (20) (8)))) (cond (Nat.ble i 68) (cond (Nat.ble i 66) (20) (cond (Nat.ble i 67) (20) (20))) (cond (Nat.ble i 69) (8) (cond (Nat.ble i 70) (20) (20)))))) (cond (Nat.ble i 83) (cond (Nat.ble i 77) (cond (Nat.ble i 74) (cond (Nat.ble i 72) (20) (cond (Nat.ble i 73) (8) (20))) (cond (Nat.ble i 75) (20) (cond (Nat.ble i 76) (20) (8)))) (cond (Nat.ble i 80) (cond (Nat.ble i 78) (20) (cond (Nat.ble i 79) (20) (20))) (cond (Nat.ble i 81) (8) (cond (Nat.ble i 82) (20) (20))))) (cond (Nat.ble i 89) (cond (Nat.ble i 86) (cond (Nat.ble i 84) (20) (cond (Nat.ble i 85) (8) (20))) (cond (Nat.ble i 87) (20) (cond (Nat.ble i 88) (20) (8)))) (cond (Nat.ble i 92) (cond (Nat.ble i 90) (20) (cond (Nat.ble i 91) (20) (20))) (cond (Nat.ble i 94) (cond (Nat.ble i 93) (8) (20)) (cond (Nat.ble i 95) (20) (20)))))))) (cond (Nat.ble i 145) (cond (Nat.ble i 120) (cond (Nat.ble i 108) (cond (Nat.ble i 102) (cond (Nat.ble i 99) (cond (Nat.ble i 97) (8) (cond (Nat.ble i 98) (20) (20))) (cond (Nat.ble i 100) (20) (cond (Nat.ble i 101) (8) (20)))) (cond (Nat.ble i 105) (cond (Nat.ble i 103) (20) (cond (Nat.ble i 104) (20) (8))) (cond (Nat.ble i 106) (20) (cond (Nat.ble i 107) (20) (20))))) (cond (Nat.ble i 114) (cond (Nat.ble i 111) (cond (Nat.ble i 109) (8) (cond (Nat.ble i 110) (20) (20))) (cond (Nat.ble i 112) (20) (cond (Nat.ble i 113) (8) (20)))) (cond (Nat.ble i 117) (cond (Nat.ble i 115) (20) (cond (Nat.ble i 116) (20) (3))) (cond (Nat.ble i 118) (20) (cond (Nat.ble i 119) (20) (20)))))) (cond (Nat.ble i 132) (cond (Nat.ble i 126) (cond (Nat.ble i 123) (cond (Nat.ble i 121) (20) (cond (Nat.ble i 122) (21) (21))) (cond (Nat.ble i 124) (7) (cond (Nat.ble i 125) (20) (20)))) (cond (Nat.ble i 129) (cond (Nat.ble i 127) (20) (cond (Nat.ble i 128) (4) (8))) (cond (Nat.ble i 130) (20) (cond (Nat.ble i 131) (20) (20))))) (cond (Nat.ble i 138) (cond (Nat.ble i 135) (cond (Nat.ble i 133) (20) (cond (Nat.ble i 134) (4) (8))) (cond (Nat.ble i 136) (20) (cond (Nat.ble i 137) (20) (20)))) (cond (Nat.ble i 141) (cond (Nat.ble i 139) (20) (cond (Nat.ble i 140) (4) (8))) (cond (Nat.ble i 143) (cond (Nat.ble i 142) (20) (20)) (cond (Nat.ble i 144) (20) (20))))))) (cond (Nat.ble i 1016) (cond (Nat.ble i 1004) (cond (Nat.ble i 151) (cond (Nat.ble i 148) (cond (Nat.ble i 146) (4) (cond (Nat.ble i 147) (8) (20))) (cond (Nat.ble i 149) (20) (cond (Nat.ble i 150) (20) (20)))) (cond (Nat.ble i 1001) (cond (Nat.ble i 999) (99) (cond (Nat.ble i 1000) (11) (30))) (cond (Nat.ble i 1002) (30) (cond (Nat.ble i 1003) (31) (31))))) (cond (Nat.ble i 1010) (cond (Nat.ble i 1007) (cond (Nat.ble i 1005) (30) (cond (Nat.ble i 1006) (30) (30))) (cond (Nat.ble i 1008) (30) (cond (Nat.ble i 1009) (30) (30)))) (cond (Nat.ble i 1013) (cond (Nat.ble i 1011) (30) (cond (Nat.ble i 1012) (30) (30))) (cond (Nat.ble i 1014) (30) (cond (Nat.ble i 1015) (30) (33)))))) (cond (Nat.ble i 1028) (cond (Nat.ble i 1022) (cond (Nat.ble i 1019) (cond (Nat.ble i 1017) (30) (cond (Nat.ble i 1018) (30) (30))) (cond (Nat.ble i 1020) (30) (cond (Nat.ble i 1021) (30) (30)))) (cond (Nat.ble i 1025) (cond (Nat.ble i 1023) (30) (cond (Nat.ble i 1024) (30) (30))) (cond (Nat.ble i 1026) (30) (cond (Nat.ble i 1027) (30) (30))))) (cond (Nat.ble i 1034) (cond (Nat.ble i 1031) (cond (Nat.ble i 1029) (30) (cond (Nat.ble i 1030) (30) (30))) (cond (Nat.ble i 1032) (30) (cond (Nat.ble i 1033) (30) (30)))) (cond (Nat.ble i 1037) (cond (Nat.ble i 1035) (30) (cond (Nat.ble i 1036) (33) (30))) (cond (Nat.ble i 1039) (cond (Nat.ble i 1038) (30) (30)) (cond (Nat.ble i 1040) (30) (99))))))))
def aln (i : Nat) : Nat := cond (Nat.ble i 95) (cond (Nat.ble i 47) (cond (Nat.ble i 23) (cond (Nat.ble i 11) (cond (Nat.ble i 5) (cond (Nat.ble i 2) (cond (Nat.ble i 0) (0) (cond (Nat.ble i 1) (0) (1000))) (cond (Nat.ble i 3) (0) (cond (Nat.ble i 4) (40) (0)))) (cond (Nat.ble i 8) (cond (Nat.ble i 6) (0) (cond (Nat.ble i 7) (5) (5))) (cond (Nat.ble i 9) (12) (cond (Nat.ble i 10) (12) (12))))) (cond (Nat.ble i 17) (cond (Nat.ble i 14) (cond (Nat.ble i 12) (12) (cond (Nat.ble i 13) (12) (60))) (cond (Nat.ble i 15) (12) (cond (Nat.ble i 16) (1000) (0)))) (cond (Nat.ble i 20) (cond (Nat.ble i 18) (5) (cond (Nat.ble i 19) (32) (0))) (cond (Nat.ble i 21) (5) (cond (Nat.ble i 22) (32) (0)))))) (cond (Nat.ble i 35) (cond (Nat.ble i 29) (cond (Nat.ble i 26) (cond (Nat.ble i 24) (5) (cond (Nat.ble i 25) (5) (12))) (cond (Nat.ble i 27) (12) (cond (Nat.ble i 28) (12) (12)))) (cond (Nat.ble i 32) (cond (Nat.ble i 30) (12) (cond (Nat.ble i 31) (60) (12))) (cond (Nat.ble i 33) (1000) (cond (Nat.ble i 34) (0) (5))))) (cond (Nat.ble i 41) (cond (Nat.ble i 38) (cond (Nat.ble i 36) (32) (cond (Nat.ble i 37) (0) (5))) (cond (Nat.ble i 39) (32) (cond (Nat.ble i 40) (0) (0)))) (cond (Nat.ble i 44) (cond (Nat.ble i 42) (12) (cond (Nat.ble i 43) (4) (40))) (cond (Nat.ble i 45) (40) (cond (Nat.ble i 46) (4) (0))))))) (cond (Nat.ble i 71) (cond (Nat.ble i 59) (cond (Nat.ble i 53) (cond (Nat.ble i 50) (cond (Nat.ble i 48) (16) (cond (Nat.ble i 49) (0) (12))) (cond (Nat.ble i 51) (4) (cond (Nat.ble i 52) (40) (0)))) (cond (Nat.ble i 56) (cond (Nat.ble i 54) (12) (cond (Nat.ble i 55) (4) (40))) (cond (Nat.ble i 57) (0) (cond (Nat.ble i 58) (12) (4))))) (cond (Nat.ble i 65) (cond (Nat.ble i 62) (cond (Nat.ble i 60) (40) (cond (Nat.ble i 61) (0) (12))) (cond (Nat.ble i 63) (4) (cond (Nat.ble i 64) (40) (0)))) (cond (Nat.ble i 68) (cond (Nat.ble i 66) (12) (cond (Nat.ble i 67) (4) (40))) (cond (Nat.ble i 69) (0) (cond (Nat.ble i 70) (12) (4)))))) (cond (Nat.ble i 83) (cond (Nat.ble i 77) (cond (Nat.ble i 74) (cond (Nat.ble i 72) (40) (cond (Nat.ble i 73) (0) (12))) (cond (Nat.ble i 75) (4) (cond (Nat.ble i 76) (40) (0)))) (cond (Nat.ble i 80) (cond (Nat.ble i 78) (12) (cond (Nat.ble i 79) (4) (40))) (cond (Nat.ble i 81) (0) (cond (Nat.ble i 82) (12) (4))))) (cond (Nat.ble i 89) (cond (Nat.ble i 86) (cond (Nat.ble i 84) (40) (cond (Nat.ble i 85) (0) (12))) (cond (Nat.ble i 87) (4) (cond (Nat.ble i 88) (40) (0)))) (cond (Nat.ble i 92) (cond (Nat.ble i 90) (12) (cond (Nat.ble i 91) (4) (40))) (cond (Nat.ble i 93) (0) (cond (Nat.ble i 94) (12) (4)))))))) (cond (Nat.ble i 143) (cond (Nat.ble i 119) (cond (Nat.ble i 107) (cond (Nat.ble i 101) (cond (Nat.ble i 98) (cond (Nat.ble i 96) (40) (cond (Nat.ble i 97) (0) (12))) (cond (Nat.ble i 99) (4) (cond (Nat.ble i 100) (40) (0)))) (cond (Nat.ble i 104) (cond (Nat.ble i 102) (12) (cond (Nat.ble i 103) (4) (40))) (cond (Nat.ble i 105) (0) (cond (Nat.ble i 106) (12) (4))))) (cond (Nat.ble i 113) (cond (Nat.ble i 110) (cond (Nat.ble i 108) (40) (cond (Nat.ble i 109) (0) (12))) (cond (Nat.ble i 111) (4) (cond (Nat.ble i 112) (40) (0)))) (cond (Nat.ble i 116) (cond (Nat.ble i 114) (12) (cond (Nat.ble i 115) (4) (40))) (cond (Nat.ble i 117) (0) (cond (Nat.ble i 118) (156) (13)))))) (cond (Nat.ble i 131) (cond (Nat.ble i 125) (cond (Nat.ble i 122) (cond (Nat.ble i 120) (4) (cond (Nat.ble i 121) (324) (81))) (cond (Nat.ble i 123) (81) (cond (Nat.ble i 124) (0) (12)))) (cond (Nat.ble i 128) (cond (Nat.ble i 126) (5) (cond (Nat.ble i 127) (10) (0))) (cond (Nat.ble i 129) (0) (cond (Nat.ble i 130) (12) (4))))) (cond (Nat.ble i 137) (cond (Nat.ble i 134) (cond (Nat.ble i 132) (40) (cond (Nat.ble i 133) (40) (0))) (cond (Nat.ble i 135) (0) (cond (Nat.ble i 136) (12) (4)))) (cond (Nat.ble i 140) (cond (Nat.ble i 138) (40) (cond (Nat.ble i 139) (40) (0))) (cond (Nat.ble i 141) (0) (cond (Nat.ble i 142) (12) (4))))))) (cond (Nat.ble i 1015) (cond (Nat.ble i 1003) (cond (Nat.ble i 149) (cond (Nat.ble i 146) (cond (Nat.ble i 144) (40) (cond (Nat.ble i 145) (40) (0))) (cond (Nat.ble i 147) (0) (cond (Nat.ble i 148) (12) (4)))) (cond (Nat.ble i 1000) (cond (Nat.ble i 150) (40) (cond (Nat.ble i 151) (40) (0))) (cond (Nat.ble i 1001) (1000) (cond (Nat.ble i 1002) (8) (10))))) (cond (Nat.ble i 1009) (cond (Nat.ble i 1006) (cond (Nat.ble i 1004) (24) (cond (Nat.ble i 1005) (10) (24))) (cond (Nat.ble i 1007) (24) (cond (Nat.ble i 1008) (24) (24)))) (cond (Nat.ble i 1012) (cond (Nat.ble i 1010) (120) (cond (Nat.ble i 1011) (24) (4))) (cond (Nat.ble i 1013) (4) (cond (Nat.ble i 1014) (2000) (7)))))) (cond (Nat.ble i 1027) (cond (Nat.ble i 1021) (cond (Nat.ble i 1018) (cond (Nat.ble i 1016) (7) (cond (Nat.ble i 1017) (7) (7))) (cond (Nat.ble i 1019) (7) (cond (Nat.ble i 1020) (7) (7)))) (cond (Nat.ble i 1024) (cond (Nat.ble i 1022) (7) (cond (Nat.ble i 1023) (7) (7))) (cond (Nat.ble i 1025) (7) (cond (Nat.ble i 1026) (20) (6))))) (cond (Nat.ble i 1033) (cond (Nat.ble i 1030) (cond (Nat.ble i 1028) (240) (cond (Nat.ble i 1029) (240) (5))) (cond (Nat.ble i 1031) (40) (cond (Nat.ble i 1032) (60) (60)))) (cond (Nat.ble i 1036) (cond (Nat.ble i 1034) (240) (cond (Nat.ble i 1035) (960) (4))) (cond (Nat.ble i 1038) (cond (Nat.ble i 1037) (4) (4)) (cond (Nat.ble i 1039) (12) (4))))))))
def artL (i : Nat) : List Nat := cond (Nat.ble i 95) (cond (Nat.ble i 47) (cond (Nat.ble i 23) (cond (Nat.ble i 11) (cond (Nat.ble i 5) (cond (Nat.ble i 2) (cond (Nat.ble i 0) ([1, 3, 0, 0, 40, 46, 47, 113, 117, 124, 126, 127]) (cond (Nat.ble i 1) ([2, 0, 0, 0, 0, 0, 0, 0]) ([]))) (cond (Nat.ble i 3) ([1, 5, 4, 0]) (cond (Nat.ble i 4) ([]) ([1])))) (cond (Nat.ble i 8) (cond (Nat.ble i 6) ([0, 7, 8, 0, 9, 10, 11, 12, 13, 14, 15, 0, 0, 0, 17, 20]) (cond (Nat.ble i 7) ([]) ([]))) (cond (Nat.ble i 9) ([]) (cond (Nat.ble i 10) ([]) ([]))))) (cond (Nat.ble i 17) (cond (Nat.ble i 14) (cond (Nat.ble i 12) ([]) (cond (Nat.ble i 13) ([]) ([]))) (cond (Nat.ble i 15) ([]) (cond (Nat.ble i 16) ([]) ([0, 18, 19, 16, 0, 0])))) (cond (Nat.ble i 20) (cond (Nat.ble i 18) ([]) (cond (Nat.ble i 19) ([]) ([0, 21, 22, 16, 0, 0]))) (cond (Nat.ble i 21) ([]) (cond (Nat.ble i 22) ([]) ([0, 24, 25, 0, 26, 27, 28, 29, 30, 31, 32, 0, 0, 0, 34, 37])))))) (cond (Nat.ble i 35) (cond (Nat.ble i 29) (cond (Nat.ble i 26) (cond (Nat.ble i 24) ([]) (cond (Nat.ble i 25) ([]) ([]))) (cond (Nat.ble i 27) ([]) (cond (Nat.ble i 28) ([]) ([])))) (cond (Nat.ble i 32) (cond (Nat.ble i 30) ([]) (cond (Nat.ble i 31) ([]) ([]))) (cond (Nat.ble i 33) ([]) (cond (Nat.ble i 34) ([0, 35, 36, 33, 0, 0]) ([]))))) (cond (Nat.ble i 41) (cond (Nat.ble i 38) (cond (Nat.ble i 36) ([]) (cond (Nat.ble i 37) ([0, 38, 39, 33, 0, 0]) ([]))) (cond (Nat.ble i 39) ([]) (cond (Nat.ble i 40) ([41, 45, 0, 0, 0, 0]) ([42, 43, 44, 0, 0, 0, 0])))) (cond (Nat.ble i 44) (cond (Nat.ble i 42) ([]) (cond (Nat.ble i 43) ([]) ([]))) (cond (Nat.ble i 45) ([]) (cond (Nat.ble i 46) ([]) ([48, 0, 0]))))))) (cond (Nat.ble i 71) (cond (Nat.ble i 59) (cond (Nat.ble i 53) (cond (Nat.ble i 50) (cond (Nat.ble i 48) ([]) (cond (Nat.ble i 49) ([50, 51, 52, 0, 0, 0, 0]) ([]))) (cond (Nat.ble i 51) ([]) (cond (Nat.ble i 52) ([]) ([54, 55, 56, 0, 0, 0, 0])))) (cond (Nat.ble i 56) (cond (Nat.ble i 54) ([]) (cond (Nat.ble i 55) ([]) ([]))) (cond (Nat.ble i 57) ([58, 59, 60, 0, 0, 0, 0]) (cond (Nat.ble i 58) ([]) ([]))))) (cond (Nat.ble i 65) (cond (Nat.ble i 62) (cond (Nat.ble i 60) ([]) (cond (Nat.ble i 61) ([62, 63, 64, 0, 0, 0, 0]) ([]))) (cond (Nat.ble i 63) ([]) (cond (Nat.ble i 64) ([]) ([66, 67, 68, 0, 0, 0, 0])))) (cond (Nat.ble i 68) (cond (Nat.ble i 66) ([]) (cond (Nat.ble i 67) ([]) ([]))) (cond (Nat.ble i 69) ([70, 71, 72, 0, 0, 0, 0]) (cond (Nat.ble i 70) ([]) ([])))))) (cond (Nat.ble i 83) (cond (Nat.ble i 77) (cond (Nat.ble i 74) (cond (Nat.ble i 72) ([]) (cond (Nat.ble i 73) ([74, 75, 76, 0, 0, 0, 0]) ([]))) (cond (Nat.ble i 75) ([]) (cond (Nat.ble i 76) ([]) ([78, 79, 80, 0, 0, 0, 0])))) (cond (Nat.ble i 80) (cond (Nat.ble i 78) ([]) (cond (Nat.ble i 79) ([]) ([]))) (cond (Nat.ble i 81) ([82, 83, 84, 0, 0, 0, 0]) (cond (Nat.ble i 82) ([]) ([]))))) (cond (Nat.ble i 89) (cond (Nat.ble i 86) (cond (Nat.ble i 84) ([]) (cond (Nat.ble i 85) ([86, 87, 88, 0, 0, 0, 0]) ([]))) (cond (Nat.ble i 87) ([]) (cond (Nat.ble i 88) ([]) ([90, 91, 92, 0, 0, 0, 0])))) (cond (Nat.ble i 92) (cond (Nat.ble i 90) ([]) (cond (Nat.ble i 91) ([]) ([]))) (cond (Nat.ble i 93) ([94, 95, 96, 0, 0, 0, 0]) (cond (Nat.ble i 94) ([]) ([])))))))) (cond (Nat.ble i 143) (cond (Nat.ble i 119) (cond (Nat.ble i 107) (cond (Nat.ble i 101) (cond (Nat.ble i 98) (cond (Nat.ble i 96) ([]) (cond (Nat.ble i 97) ([98, 99, 100, 0, 0, 0, 0]) ([]))) (cond (Nat.ble i 99) ([]) (cond (Nat.ble i 100) ([]) ([102, 103, 104, 0, 0, 0, 0])))) (cond (Nat.ble i 104) (cond (Nat.ble i 102) ([]) (cond (Nat.ble i 103) ([]) ([]))) (cond (Nat.ble i 105) ([106, 107, 108, 0, 0, 0, 0]) (cond (Nat.ble i 106) ([]) ([]))))) (cond (Nat.ble i 113) (cond (Nat.ble i 110) (cond (Nat.ble i 108) ([]) (cond (Nat.ble i 109) ([110, 111, 112, 0, 0, 0, 0]) ([]))) (cond (Nat.ble i 111) ([]) (cond (Nat.ble i 112) ([]) ([114, 115, 116, 0, 0, 0, 0])))) (cond (Nat.ble i 116) (cond (Nat.ble i 114) ([]) (cond (Nat.ble i 115) ([]) ([]))) (cond (Nat.ble i 117) ([118, 119, 120, 121, 122, 123, 0]) (cond (Nat.ble i 118) ([]) ([])))))) (cond (Nat.ble i 131) (cond (Nat.ble i 125) (cond (Nat.ble i 122) (cond (Nat.ble i 120) ([]) (cond (Nat.ble i 121) ([]) ([]))) (cond (Nat.ble i 123) ([]) (cond (Nat.ble i 124) ([125]) ([])))) (cond (Nat.ble i 128) (cond (Nat.ble i 126) ([]) (cond (Nat.ble i 127) ([]) ([129, 133, 0, 0, 0, 0]))) (cond (Nat.ble i 129) ([130, 131, 132, 0, 0, 0, 0]) (cond (Nat.ble i 130) ([]) ([]))))) (cond (Nat.ble i 137) (cond (Nat.ble i 134) (cond (Nat.ble i 132) ([]) (cond (Nat.ble i 133) ([]) ([135, 139, 0, 0, 0, 0]))) (cond (Nat.ble i 135) ([136, 137, 138, 0, 0, 0, 0]) (cond (Nat.ble i 136) ([]) ([])))) (cond (Nat.ble i 140) (cond (Nat.ble i 138) ([]) (cond (Nat.ble i 139) ([]) ([141, 145, 0, 0, 0, 0]))) (cond (Nat.ble i 141) ([142, 143, 144, 0, 0, 0, 0]) (cond (Nat.ble i 142) ([]) ([]))))))) (cond (Nat.ble i 1015) (cond (Nat.ble i 1003) (cond (Nat.ble i 149) (cond (Nat.ble i 146) (cond (Nat.ble i 144) ([]) (cond (Nat.ble i 145) ([]) ([147, 151, 0, 0, 0, 0]))) (cond (Nat.ble i 147) ([148, 149, 150, 0, 0, 0, 0]) (cond (Nat.ble i 148) ([]) ([])))) (cond (Nat.ble i 1000) (cond (Nat.ble i 150) ([]) (cond (Nat.ble i 151) ([]) ([0, 0, 1001, 0, 0, 0, 0, 0, 0, 0, 1002, 1003, 1004, 1005, 1006, 1007, 1008, 1009, 1010, 1011, 1012, 1013, 1014, 0, 0, 0, 1015, 1016, 1017, 1018, 1019, 1020, 1021, 1022, 1023, 1024, 1025, 1026, 0, 0, 1027, 1028, 1029, 1030, 1031, 1032, 1033, 1034, 1035, 1036, 0, 0, 0, 0, 1037, 1038, 0, 0, 0, 0, 1039, 1040, 0]))) (cond (Nat.ble i 1001) ([]) (cond (Nat.ble i 1002) ([]) ([]))))) (cond (Nat.ble i 1009) (cond (Nat.ble i 1006) (cond (Nat.ble i 1004) ([]) (cond (Nat.ble i 1005) ([]) ([]))) (cond (Nat.ble i 1007) ([]) (cond (Nat.ble i 1008) ([]) ([])))) (cond (Nat.ble i 1012) (cond (Nat.ble i 1010) ([]) (cond (Nat.ble i 1011) ([]) ([]))) (cond (Nat.ble i 1013) ([]) (cond (Nat.ble i 1014) ([]) ([])))))) (cond (Nat.ble i 1027) (cond (Nat.ble i 1021) (cond (Nat.ble i 1018) (cond (Nat.ble i 1016) ([]) (cond (Nat.ble i 1017) ([]) ([]))) (cond (Nat.ble i 1019) ([]) (cond (Nat.ble i 1020) ([]) ([])))) (cond (Nat.ble i 1024) (cond (Nat.ble i 1022) ([]) (cond (Nat.ble i 1023) ([]) ([]))) (cond (Nat.ble i 1025) ([]) (cond (Nat.ble i 1026) ([]) ([]))))) (cond (Nat.ble i 1033) (cond (Nat.ble i 1030) (cond (Nat.ble i 1028) ([]) (cond (Nat.ble i 1029) ([]) ([]))) (cond (Nat.ble i 1031) ([]) (cond (Nat.ble i 1032) ([]) ([])))) (cond (Nat.ble i 1036) (cond (Nat.ble i 1034) ([]) (cond (Nat.ble i 1035) ([]) ([]))) (cond (Nat.ble i 1038) (cond (Nat.ble i 1037) ([]) ([])) (cond (Nat.ble i 1039) ([]) ([]))))))))
def art (i k : Nat) : Nat := (artL i).getD k 0
def araL (i : Nat) : List Nat := cond (Nat.ble i 46) ([128, 134, 140, 146]) ([49, 53, 57, 61, 65, 69, 73, 77, 81, 85, 89, 93, 97, 101, 105, 109])
def ara (i k : Nat) : Nat := (araL i).getD k 0
/-- the kinds of the fields of a class: 0 int, 1 boolean, 2 long, 3 a reference that stays, 4 one that changes -/
def aft (c : Nat) : List Nat := cond (Nat.ble c 5) (cond (Nat.ble c 2) (cond (Nat.ble c 0) ([1, 3, 3, 3, 0, 0]) (cond (Nat.ble c 1) ([3]) ([3, 0, 0]))) (cond (Nat.ble c 3) ([3, 3, 3, 3, 3, 3, 0]) (cond (Nat.ble c 4) ([3, 3, 0, 0, 0, 1]) ([3, 3, 3, 0])))) (cond (Nat.ble c 8) (cond (Nat.ble c 6) ([0, 3, 3, 0, 3, 3, 3, 3, 3, 3, 3, 0, 0, 1, 3, 3]) (cond (Nat.ble c 7) ([3]) ([3, 3, 3, 0, 0, 0, 0]))) (cond (Nat.ble c 9) ([3, 0, 0, 0, 4, 0, 2, 0]) (cond (Nat.ble c 10) ([3, 3, 4, 4, 3, 3, 3, 3, 3, 3, 3, 3]) ([0, 0, 3, 0, 0, 0, 0, 2, 0, 0, 3, 3, 3, 3, 3, 3, 3, 3, 3, 3, 3, 3, 3, 0, 0, 1, 3, 3, 3, 3, 3, 3, 3, 3, 3, 3, 3, 3, 0, 2, 3, 3, 3, 3, 3, 3, 3, 3, 3, 3, 0, 0, 2, 2, 3, 3, 2, 2, 0, 2, 3, 3, 2]))))
end
section
/-! A SMALL MACHINE. A state: ints, longs and changing references of fields, ints and longs of arrays, each by the cell's number and the place. What it does is said as a proposition that unfolds by itself, a row of instructions at a time; part 08 on shows that the true machine does the same. -/
abbrev aS : Type := (Nat → Nat → Int32) × (Nat → Nat → Int64) × (Nat → Nat → Nat) × (Nat → Nat → Int32) × (Nat → Nat → Int64)
def gi (S : aS) (i k : Nat) : Int32 := S.1 i k
def gl (S : aS) (i k : Nat) : Int64 := S.2.1 i k
def gr (S : aS) (i k : Nat) : Nat := S.2.2.1 i k
def ga (S : aS) (i k : Nat) : Int32 := S.2.2.2.1 i k
def gb (S : aS) (i k : Nat) : Int64 := S.2.2.2.2 i k
def si (S : aS) (i k : Nat) (v : Int32) : aS := (va_up S.1 i (va_up (S.1 i) k v), S.2)
def sl (S : aS) (i k : Nat) (v : Int64) : aS := (S.1, va_up S.2.1 i (va_up (S.2.1 i) k v), S.2.2)
def sr (S : aS) (i k : Nat) (v : Nat) : aS := (S.1, S.2.1, va_up S.2.2.1 i (va_up (S.2.2.1 i) k v), S.2.2.2)
def sa (S : aS) (i k : Nat) (v : Int32) : aS := (S.1, S.2.1, S.2.2.1, va_up S.2.2.2.1 i (upd (S.2.2.2.1 i) k v), S.2.2.2.2)
def sb (S : aS) (i k : Nat) (v : Int64) : aS := (S.1, S.2.1, S.2.2.1, S.2.2.2.1, va_up S.2.2.2.2 i (vp_updL (S.2.2.2.2 i) k v))
/-- an instruction: its place in the code, itself, its length, 0 or (one more than) its number where it is a cut, two numbers, an int, a long -/
abbrev aE : Type := Nat × ClassFile.Instr × Nat × Nat × Nat × Nat × Int32 × Int64
abbrev aLs : Type := List (Option Value)
abbrev aT : Type := Option (Option Prop × Option Prop × aLs × List Value × aS)
def aG (g : Option Prop) (X : Prop) : Prop := match g with
  | none => X
  | some P => P ∧ X
/-- the kind of a cell: nothing to show where it is known -/
def gK (a c : Nat) : Option Prop := cond (Nat.beq (akd a) c) none (some (akd a = c))
/-- one of the constants -/
def gC (x : Nat) : Option Prop := cond (Nat.ble 2000 x && Nat.ble x 2099) none (some (2000 ≤ x ∧ x ≤ 2099))
def aok (ls : aLs) (st : List Value) (S : aS) : aT := some (none, none, ls, st, S)
def agd (P : Prop) (ls : aLs) (st : List Value) (S : aS) : aT := some (none, some P, ls, st, S)
def pI (st : List Value) (k : Int32 → List Value → aT) : aT := match st with
  | .int x :: r => k x r
  | _ => none
def pII (st : List Value) (k : Int32 → Int32 → List Value → aT) : aT := match st with
  | .int y :: .int x :: r => k x y r
  | _ => none
def pL (st : List Value) (k : Int64 → List Value → aT) : aT := match st with
  | .long x :: r => k x r
  | _ => none
def pLL (st : List Value) (k : Int64 → Int64 → List Value → aT) : aT := match st with
  | .long y :: .long x :: r => k x y r
  | _ => none
def pLI (st : List Value) (k : Int64 → Int32 → List Value → aT) : aT := match st with
  | .int y :: .long x :: r => k x y r
  | _ => none
def pR (st : List Value) (k : Nat → List Value → aT) : aT := match st with
  | .ref a :: r => k a r
  | _ => none
def pRR (st : List Value) (k : Nat → Nat → List Value → aT) : aT := match st with
  | .ref b :: .ref a :: r => k a b r
  | _ => none
def pRI (st : List Value) (k : Nat → Int32 → List Value → aT) : aT := match st with
  | .int y :: .ref a :: r => k a y r
  | _ => none
def pRL (st : List Value) (k : Nat → Int64 → List Value → aT) : aT := match st with
  | .long y :: .ref a :: r => k a y r
  | _ => none
def pRII (st : List Value) (k : Nat → Int32 → Int32 → List Value → aT) : aT := match st with
  | .int y :: .int x :: .ref a :: r => k a x y r
  | _ => none
def pRIL (st : List Value) (k : Nat → Int32 → Int64 → List Value → aT) : aT := match st with
  | .long y :: .int x :: .ref a :: r => k a x y r
  | _ => none
def aldI (ls : aLs) (i : Nat) (k : Int32 → aT) : aT := match ls[i]? with
  | some (some (.int x)) => k x
  | _ => none
def aldL (ls : aLs) (i : Nat) (k : Int64 → aT) : aT := match ls[i]? with
  | some (some (.long x)) => k x
  | _ => none
def aldR (ls : aLs) (i : Nat) (k : Nat → aT) : aT := match ls[i]? with
  | some (some (.ref x)) => k x
  | _ => none
def acat2 (v : Value) : Bool := match v with
  | .long _ => true
  | .double _ => true
  | _ => false
/-- what is written at i takes away the long that began ahead of it -/
def akl (ls : aLs) (i : Nat) : aLs := match i with
  | 0 => ls
  | j + 1 => match ls[j]? with
    | some (some v) => cond (acat2 v) (ls.set j none) ls
    | _ => ls
def ast1 (ls : aLs) (i : Nat) (v : Value) : aLs := (akl ls i).set i (some v)
def ast2 (ls : aLs) (i : Nat) (v : Value) : aLs := ((akl ls i).set i (some v)).set (i + 1) none
/-- a store has a place -/
def aput (ls : aLs) (i : Nat) (k : aT) : aT := cond (Nat.blt i ls.length) k none
/-- what a field holds -/
def afg (S : aS) (a c k : Nat) (h : Value → aT) : aT := match (aft c)[k]? with
  | some 0 => h (.int (gi S a k))
  | some 1 => h (.int (gi S a k))
  | some 2 => h (.long (gl S a k))
  | some 3 => h (.ref (art a k))
  | some 4 => h (.ref (gr S a k))
  | _ => none
def afp (S : aS) (c k : Nat) (ls : aLs) (st : List Value) : aT := match (aft c)[k]? with
  | some 0 => pRI st fun a v r => some (gK a c, none, ls, r, si S a k v)
  | some 1 => pRI st fun a v r => some (gK a c, some (v = 0 ∨ v = 1), ls, r, si S a k v)
  | some 2 => pRL st fun a v r => some (gK a c, none, ls, r, sl S a k v)
  | some 4 => pRR st fun a b r => some (gK a c, none, ls, r, sr S a k b)
  | _ => none
def apu (e : aE) (ls : aLs) (st : List Value) (S : aS) : aT := match e.2.1 with
  | .iconst _ => aok ls (.int e.2.2.2.2.2.2.1 :: st) S
  | .bipush _ => aok ls (.int e.2.2.2.2.2.2.1 :: st) S
  | .sipush _ => aok ls (.int e.2.2.2.2.2.2.1 :: st) S
  | .ldc _ => aok ls (.int e.2.2.2.2.2.2.1 :: st) S
  | .ldc_w _ => aok ls (.int e.2.2.2.2.2.2.1 :: st) S
  | .lconst _ => aok ls (.long e.2.2.2.2.2.2.2 :: st) S
  | .ldc2_w _ => aok ls (.long e.2.2.2.2.2.2.2 :: st) S
  | .iload_n i => aldI ls i fun x => aok ls (.int x :: st) S
  | .iload i => aldI ls i fun x => aok ls (.int x :: st) S
  | .lload_n i => aldL ls i fun x => aok ls (.long x :: st) S
  | .lload i => aldL ls i fun x => aok ls (.long x :: st) S
  | .aload_n i => aldR ls i fun x => aok ls (.ref x :: st) S
  | .aload i => aldR ls i fun x => aok ls (.ref x :: st) S
  | .istore_n i => pI st fun x r => aput ls i (aok (ast1 ls i (.int x)) r S)
  | .istore i => pI st fun x r => aput ls i (aok (ast1 ls i (.int x)) r S)
  | .lstore_n i => pL st fun x r => aput ls (i + 1) (aok (ast2 ls i (.long x)) r S)
  | .lstore i => pL st fun x r => aput ls (i + 1) (aok (ast2 ls i (.long x)) r S)
  | .astore_n i => pR st fun x r => aput ls i (aok (ast1 ls i (.ref x)) r S)
  | .astore i => pR st fun x r => aput ls i (aok (ast1 ls i (.ref x)) r S)
  | .iinc i _ => aldI ls i fun x => aput ls i (aok (ast1 ls i (.int (x + e.2.2.2.2.2.2.1))) st S)
  | .iadd => pII st fun x y r => aok ls (.int (x + y) :: r) S
  | .isub => pII st fun x y r => aok ls (.int (x - y) :: r) S
  | .imul => pII st fun x y r => aok ls (.int (x * y) :: r) S
  | .iand => pII st fun x y r => aok ls (.int (x &&& y) :: r) S
  | .ior => pII st fun x y r => aok ls (.int (x ||| y) :: r) S
  | .ixor => pII st fun x y r => aok ls (.int (x ^^^ y) :: r) S
  | .idiv => pII st fun x y r => agd (¬ y = 0) ls (.int (x / y) :: r) S
  | .irem => pII st fun x y r => agd (¬ y = 0) ls (.int (x - x / y * y) :: r) S
  | .ishl => pII st fun x y r => aok ls (.int (x <<< (y &&& 31)) :: r) S
  | .ishr => pII st fun x y r => aok ls (.int (x >>> (y &&& 31)) :: r) S
  | .iushr => pII st fun x y r => aok ls (.int (x.toUInt32 >>> (y.toUInt32 &&& Int32.toUInt32 31)).toInt32 :: r) S
  | .ladd => pLL st fun x y r => aok ls (.long (x + y) :: r) S
  | .lsub => pLL st fun x y r => aok ls (.long (x - y) :: r) S
  | .lmul => pLL st fun x y r => aok ls (.long (x * y) :: r) S
  | .land => pLL st fun x y r => aok ls (.long (x &&& y) :: r) S
  | .lor => pLL st fun x y r => aok ls (.long (x ||| y) :: r) S
  | .ldiv => pLL st fun x y r => agd (¬ y = 0) ls (.long (x / y) :: r) S
  | .lrem => pLL st fun x y r => agd (¬ y = 0) ls (.long (x - x / y * y) :: r) S
  | .lshl => pLI st fun x y r => aok ls (.long (x <<< (y.toInt64 &&& 63)) :: r) S
  | .lushr => pLI st fun x y r => aok ls (.long (x.toUInt64 >>> (y.toInt64.toUInt64 &&& Int64.toUInt64 63)).toInt64 :: r) S
  | .lcmp => pLL st fun x y r => aok ls (.int (lg_cmp x y) :: r) S
  | .i2l => pI st fun x r => aok ls (.long x.toInt64 :: r) S
  | .l2i => pL st fun x r => aok ls (.int x.toInt32 :: r) S
  | .i2b => pI st fun x r => aok ls (.int x.toInt8.toInt32 :: r) S
  | .i2c => pI st fun x r => aok ls (.int (x.toUInt32 % 65536).toInt32 :: r) S
  | .dup => (match st with
    | v :: r => cond (acat2 v) none (aok ls (v :: v :: r) S)
    | _ => none)
  | .dup2 => (match st with
    | v :: w :: r => cond (acat2 v) (aok ls (v :: v :: w :: r) S) (cond (acat2 w) none (aok ls (v :: w :: v :: w :: r) S))
    | _ => none)
  | .pop => (match st with
    | v :: r => cond (acat2 v) none (aok ls r S)
    | _ => none)
  | .getfield _ => pR st fun a r => afg S a e.2.2.2.2.1 e.2.2.2.2.2.1 fun v => some (gK a e.2.2.2.2.1, none, ls, v :: r, S)
  | .putfield _ => afp S e.2.2.2.2.1 e.2.2.2.2.2.1 ls st
  | .iaload => pRI st fun x i r => some (gK x e.2.2.2.2.1, some (vp_in i (aln x)), ls, .int (ga S x i.toNatClampNeg) :: r, S)
  | .iastore => pRII st fun x i v r => some (gK x e.2.2.2.2.1, some (vp_in i (aln x)), ls, r, sa S x i.toNatClampNeg v)
  | .laload => pRI st fun x i r => some (gK x e.2.2.2.2.1, some (vp_in i (aln x)), ls, .long (gb S x i.toNatClampNeg) :: r, S)
  | .lastore => pRIL st fun x i v r => some (gK x e.2.2.2.2.1, some (vp_in i (aln x)), ls, r, sb S x i.toNatClampNeg v)
  | .baload => pRI st fun x i r => cond (Nat.beq e.2.2.2.2.1 22) (some (gK x e.2.2.2.2.1, some (vp_in i (aln x)), ls, .int (ga S x i.toNatClampNeg) :: r, S)) (some (gK x e.2.2.2.2.1, some (vp_in i (aln x)), ls, .int (ga S x i.toNatClampNeg) :: r, S))
  | .bastore => pRII st fun x i v r => cond (Nat.beq e.2.2.2.2.1 22) (some (gK x e.2.2.2.2.1, some (vp_in i (aln x)), ls, r, sa S x i.toNatClampNeg (vp_nar .byte v))) (some (gK x e.2.2.2.2.1, some (vp_in i (aln x)), ls, r, sa S x i.toNatClampNeg (vp_nar .boolean v)))
  | .aaload => pRI st fun x i r => some (gK x e.2.2.2.2.1, some (vp_in i (aln x)), ls, .ref (ara x i.toNatClampNeg) :: r, S)
  | .arraylength => pR st fun x r => some (gK x e.2.2.2.2.1, none, ls, .int (Int32.ofNat (aln x)) :: r, S)
  | _ => none
def abr (c : ClassFile.Cond) (x y : Int32) (T F : Prop) : Prop := match c with
  | .eq => (x = y → T) ∧ (¬ x = y → F)
  | .ne => (¬ x = y → T) ∧ (x = y → F)
  | .lt => (x < y → T) ∧ (¬ x < y → F)
  | .ge => (y ≤ x → T) ∧ (¬ y ≤ x → F)
  | .gt => (y < x → T) ∧ (¬ y < x → F)
  | .le => (x ≤ y → T) ∧ (¬ x ≤ y → F)
def aba (c : ClassFile.ACond) (x y : Nat) (T F : Prop) : Prop := match c with
  | .eq => (x = y → T) ∧ (¬ x = y → F)
  | .ne => (¬ x = y → T) ∧ (x = y → F)
/-- a jump: over so many instructions, or to a cut -/
def ajp (e : aE) (nx : Nat → aLs → List Value → aS → Prop) (go : Nat → aLs → List Value → aS → Prop) (ls : aLs) (st : List Value) (S : aS) : Prop := match e.2.2.2.2.2.1 with
  | 0 => go e.2.2.2.2.1 ls st S
  | _ => nx e.2.2.2.2.1 ls st S
def aI (v : Value) (k : Int32 → Prop) : Prop := match v with
  | .int x => k x
  | _ => False
def aL (v : Value) (k : Int64 → Prop) : Prop := match v with
  | .long x => k x
  | _ => False
def aA (v : Value) (k : Nat → Prop) : Prop := match v with
  | .ref x => k x
  | _ => False
def aV (v : Value) (X : Prop) : Prop := match v with
  | .null => X
  | _ => False
/-- what a call brings: nothing, an int, a long, a reference -/
def arv (n : Nat) (v : Value) (k : List Value → Prop) : Prop := match n with
  | 0 => aV v (k [])
  | 1 => aI v fun x => k [.int x]
  | 2 => aL v fun x => k [.long x]
  | _ => aA v fun x => k [.ref x]
def acs (st : List Value) : Nat := (st.map fun v => v.category).sum
/-- a switch by a row of numbers from lo on: where each goes -/
def asw (x : Int32) (d : Nat) (k : Nat → Prop) : List (Int32 × Nat) → Prop
  | [] => k d
  | (c, t) :: r => (x = c → k t) ∧ (¬ x = c → asw x d k r)
section
variable (px : aE → aLs → List Value → aS → aT) (tb : Nat → List (Int32 × Nat)) (cl : Nat → List Value → aS → (Value → aS → Prop) → Prop) (Q : Value → aS → Prop) (nx : Nat → aLs → List Value → aS → Prop)
def acl (e : aE) (go : Nat → aLs → List Value → aS → Prop) (ls : aLs) (st : List Value) (S : aS) : Prop :=
  match Nat.ble (acs (st.drop (e.2.2.2.2.2.1 % 16))) 8 && Nat.ble (e.2.2.2.2.2.1 % 16) st.length with
  | true => cl e.2.2.2.2.1 (st.take (e.2.2.2.2.2.1 % 16)).reverse S (fun v S' => arv (e.2.2.2.2.2.1 / 16) v fun l => go 0 ls (l ++ st.drop (e.2.2.2.2.2.1 % 16)) S')
  | false => False
def apw (e : aE) (go : Nat → aLs → List Value → aS → Prop) (ls : aLs) (st : List Value) (S : aS) : Prop := match cond (Nat.ble 5000 e.2.2.2.2.1) (px e ls st S) (apu e ls st S) with
  | some (g1, g2, ls', st', S') => aG g1 (aG g2 (go 0 ls' st' S'))
  | none => False
def astp (e : aE) (go : Nat → aLs → List Value → aS → Prop) (ls : aLs) (st : List Value) (S : aS) : Prop := match e.2.1 with
  | .ifCond c _ => (match st with
    | .int x :: r => abr c x 0 (ajp e nx go ls r S) (go 0 ls r S)
    | _ => False)
  | .if_icmp c _ => (match st with
    | .int y :: .int x :: r => abr c x y (ajp e nx go ls r S) (go 0 ls r S)
    | _ => False)
  | .if_acmp c _ => (match st with
    | .ref y :: .ref x :: r => aG (gC x) (aG (gC y) (aba c x y (ajp e nx go ls r S) (go 0 ls r S)))
    | _ => False)
  | .goto _ => ajp e nx go ls st S
  | .tableswitch _ _ _ _ => (match st with
    | .int x :: r => asw x e.2.2.2.2.2.1 (fun t => nx t ls r S) (tb e.2.2.2.2.1)
    | _ => False)
  | .ireturn => (match st with
    | [.int x] => (match e.2.2.2.2.1 with
      | 0 => Q (.int x) S
      | _ => (x = 0 ∨ x = 1) ∧ Q (.int x) S)
    | _ => False)
  | .lreturn => (match st with
    | [.long x] => Q (.long x) S
    | _ => False)
  | .areturn => (match st with
    | [.ref x] => Q (.ref x) S
    | _ => False)
  | .return_ => (match st with
    | [] => Q .null S
    | _ => False)
  | .invokevirtual _ => cond (Nat.ble 5000 e.2.2.2.2.1) (apw px e go ls st S) (acl cl e go ls st S)
  | .invokespecial _ => cond (Nat.ble 5000 e.2.2.2.2.1) (apw px e go ls st S) (acl cl e go ls st S)
  | .invokestatic _ => cond (Nat.ble 5000 e.2.2.2.2.1) (apw px e go ls st S) (acl cl e go ls st S)
  | _ => apw px e go ls st S
/-- the row of instructions from here on: over k of them, then one by one up to the cuts ('f': the first one is none) -/
noncomputable def awp (code : List aE) : Nat → Bool → aLs → List Value → aS → Prop :=
  List.rec (motive := fun _ => Nat → Bool → aLs → List Value → aS → Prop) (fun _ _ _ _ _ => False)
    (fun e _ ih => fun k f ls st S => Nat.rec (motive := fun _ => Prop)
      (cond (f || Nat.beq e.2.2.2.1 0) (astp px tb cl Q nx e (fun k => ih k false) ls st S) (nx (e.2.2.2.1 - 1) ls st S)) (fun k' _ => ih k' f ls st S) k) code
end
/-- at a cut only the locals are kept that are used behind it -/
def amk : Nat → aLs → aLs
  | _, [] => []
  | m, x :: t => cond (Nat.beq (m % 2) 1) x none :: amk (m / 2) t
/-- from the cut q on the method comes to Q: the least that goes on so -/
def aP (px : aE → aLs → List Value → aS → aT) (tb : Nat → List (Int32 × Nat)) (cl : Nat → List Value → aS → (Value → aS → Prop) → Prop) (mk : Nat → Nat) (code : List aE) (Q : Value → aS → Prop) (q : Nat) (ls : aLs) (st : List Value) (S : aS) : Prop :=
  ∀ I : Nat → aLs → List Value → aS → Prop, (∀ q ls st S, awp px tb cl Q (fun q ls => I q (amk (mk q) ls)) (code.drop q) 0 true ls st S → I q ls st S) → I q ls st S
def alE : List Value → aLs
  | [] => []
  | v :: t => cond (acat2 v) (some v :: none :: alE t) (some v :: alE t)
def alc (args : List Value) (n : Nat) : aLs := alE args ++ List.replicate (n - (alE args).length) none
end
section
/-! the small machine: more where less is asked -/
theorem aG_mono {g : Option Prop} {X Y : Prop} (h : X → Y) (x : aG g X) : aG g Y := by
  cases g with
  | none => exact h x
  | some P => exact ⟨x.1, h x.2⟩
theorem cond_mono {b : Bool} {X Y X' Y' : Prop} (hX : X → X') (hY : Y → Y') (h : cond b X Y) : cond b X' Y' := by
  cases b <;> first | exact hY h | exact hX h
theorem abr_mono {c : ClassFile.Cond} {x y : Int32} {T F T' F' : Prop} (hT : T → T') (hF : F → F') (h : abr c x y T F) : abr c x y T' F' := by
  cases c <;> exact ⟨fun z => hT (h.1 z), fun z => hF (h.2 z)⟩
theorem aba_mono {c : ClassFile.ACond} {x y : Nat} {T F T' F' : Prop} (hT : T → T') (hF : F → F') (h : aba c x y T F) : aba c x y T' F' := by
  cases c <;> exact ⟨fun z => hT (h.1 z), fun z => hF (h.2 z)⟩
theorem aI_mono {v : Value} {k k' : Int32 → Prop} (h : ∀ x, k x → k' x) (x : aI v k) : aI v k' := by
  cases v <;> first | exact h _ x | exact x
theorem aL_mono {v : Value} {k k' : Int64 → Prop} (h : ∀ x, k x → k' x) (x : aL v k) : aL v k' := by
  cases v <;> first | exact h _ x | exact x
theorem aA_mono {v : Value} {k k' : Nat → Prop} (h : ∀ x, k x → k' x) (x : aA v k) : aA v k' := by
  cases v <;> first | exact h _ x | exact x
theorem aV_mono {v : Value} {X Y : Prop} (h : X → Y) (x : aV v X) : aV v Y := by
  cases v <;> first | exact h x | exact x
theorem arv_mono {n : Nat} {v : Value} {k k' : List Value → Prop} (h : ∀ l, k l → k' l) (x : arv n v k) : arv n v k' := by
  match n with
  | 0 => exact aV_mono (h _) x
  | 1 => exact aI_mono (fun _ => h _) x
  | 2 => exact aL_mono (fun _ => h _) x
  | n + 3 => exact aA_mono (fun _ => h _) x
theorem asw_mono {x : Int32} {d : Nat} {k k' : Nat → Prop} (h : ∀ t, k t → k' t) : ∀ l : List (Int32 × Nat), asw x d k l → asw x d k' l
  | [], z => h _ z
  | (_, _) :: r, z => ⟨fun e => h _ (z.1 e), fun e => asw_mono h r (z.2 e)⟩
section
variable {px : aE → aLs → List Value → aS → aT} {tb : Nat → List (Int32 × Nat)} {cl cl' : Nat → List Value → aS → (Value → aS → Prop) → Prop} {Q Q' : Value → aS → Prop} {nx nx' : Nat → aLs → List Value → aS → Prop} {go go' : Nat → aLs → List Value → aS → Prop}
theorem ajp_mono (hn : ∀ q l s S, nx q l s S → nx' q l s S) (hg : ∀ k l s S, go k l s S → go' k l s S) {e : aE} {ls : aLs} {st : List Value} {S : aS} (h : ajp e nx go ls st S) : ajp e nx' go' ls st S := by
  unfold ajp at h ⊢
  split at h
  · exact hg _ _ _ _ h
  · exact hn _ _ _ _ h
theorem apw_mono (hg : ∀ k l s S, go k l s S → go' k l s S) {e : aE} {ls : aLs} {st : List Value} {S : aS} (h : apw px e go ls st S) : apw px e go' ls st S := by
  unfold apw at h ⊢
  split at h
  · exact aG_mono (aG_mono (hg _ _ _ _)) h
  · exact h
theorem acl_mono (hc : ∀ j a S R R', (∀ v S, R v S → R' v S) → cl j a S R → cl' j a S R') (hg : ∀ k l s S, go k l s S → go' k l s S) {e : aE} {ls : aLs} {st : List Value} {S : aS} (h : acl cl e go ls st S) : acl cl' e go' ls st S := by
  unfold acl at h ⊢
  split at h
  · exact hc _ _ _ _ _ (fun v S => arv_mono fun l => hg _ _ _ _) h
  · exact h
theorem astp_mono (hc : ∀ j a S R R', (∀ v S, R v S → R' v S) → cl j a S R → cl' j a S R') (hQ : ∀ v S, Q v S → Q' v S) (hn : ∀ q l s S, nx q l s S → nx' q l s S) (hg : ∀ k l s S, go k l s S → go' k l s S)
    {e : aE} {ls : aLs} {st : List Value} {S : aS} (h : astp px tb cl Q nx e go ls st S) : astp px tb cl' Q' nx' e go' ls st S := by
  unfold astp at h ⊢
  split at h
  · split at h
    · exact abr_mono (ajp_mono hn hg) (hg _ _ _ _) h
    · exact h
  · split at h
    · exact abr_mono (ajp_mono hn hg) (hg _ _ _ _) h
    · exact h
  · split at h
    · exact aG_mono (aG_mono (aba_mono (ajp_mono hn hg) (hg _ _ _ _))) h
    · exact h
  · exact ajp_mono hn hg h
  · split at h
    · exact asw_mono (fun t => hn _ _ _ _) _ h
    · exact h
  · split at h
    · split at h
      · exact hQ _ _ h
      · exact ⟨h.1, hQ _ _ h.2⟩
    · exact h
  · split at h
    · exact hQ _ _ h
    · exact h
  · split at h
    · exact hQ _ _ h
    · exact h
  · split at h
    · exact hQ _ _ h
    · exact h
  · exact cond_mono (apw_mono hg) (acl_mono hc hg) h
  · exact cond_mono (apw_mono hg) (acl_mono hc hg) h
  · exact cond_mono (apw_mono hg) (acl_mono hc hg) h
  · exact apw_mono hg h
theorem awp_mono (hc : ∀ j a S R R', (∀ v S, R v S → R' v S) → cl j a S R → cl' j a S R') (hQ : ∀ v S, Q v S → Q' v S) (hn : ∀ q l s S, nx q l s S → nx' q l s S) :
    ∀ (code : List aE) (k : Nat) (f : Bool) (ls : aLs) (st : List Value) (S : aS), awp px tb cl Q nx code k f ls st S → awp px tb cl' Q' nx' code k f ls st S := by
  intro code
  induction code with
  | nil => intro k f ls st S h; exact h
  | cons e t ih =>
    intro k f ls st S h
    cases k with
    | succ k => exact ih k f ls st S h
    | zero =>
      have h : cond (f || Nat.beq e.2.2.2.1 0) (astp px tb cl Q nx e (fun k => awp px tb cl Q nx t k false) ls st S) (nx (e.2.2.2.1 - 1) ls st S) := h
      show cond (f || Nat.beq e.2.2.2.1 0) (astp px tb cl' Q' nx' e (fun k => awp px tb cl' Q' nx' t k false) ls st S) (nx' (e.2.2.2.1 - 1) ls st S)
      cases hb : (f || Nat.beq e.2.2.2.1 0) with
      | true => rw [hb] at h; exact astp_mono hc hQ hn (fun k => ih k false) h
      | false => rw [hb] at h; exact hn _ _ _ _ h
end
section
variable {px : aE → aLs → List Value → aS → aT} {tb : Nat → List (Int32 × Nat)} {cl cl' : Nat → List Value → aS → (Value → aS → Prop) → Prop} {mk : Nat → Nat} {Q Q' : Value → aS → Prop} {code : List aE}
/-- a cut: the row of instructions behind it, each further cut likewise -/
theorem aP_go (hc : ∀ j a S R R', (∀ v S, R v S → R' v S) → cl j a S R → cl j a S R') {q : Nat} {ls : aLs} {st : List Value} {S : aS} (h : awp px tb cl Q (fun q ls => aP px tb cl mk code Q q (amk (mk q) ls)) (code.drop q) 0 true ls st S) : aP px tb cl mk code Q q ls st S := by
  intro I hI
  exact hI _ _ _ _ (awp_mono hc (fun _ _ h => h) (fun q l s S (z : aP px tb cl mk code Q q (amk (mk q) l) s S) => z I hI) _ _ _ _ _ _ h)
theorem aP_mono (hc : ∀ j a S R R', (∀ v S, R v S → R' v S) → cl j a S R → cl' j a S R') (hQ : ∀ v S, Q v S → Q' v S) {q : Nat} {ls : aLs} {st : List Value} {S : aS} (h : aP px tb cl mk code Q q ls st S) : aP px tb cl' mk code Q' q ls st S := by
  intro I hI
  exact h I fun q ls st S z => hI _ _ _ _ (awp_mono hc hQ (fun _ _ _ _ z => z) _ _ _ _ _ _ z)
end
end
section
/-! how a state of the small machine lies in the heap: the cell of number i at the address 'ad i' -/
abbrev vwCl : List vw_C := [(RX1, TX1, 6), (RX2, TX2, 1), (RX3, TX3, 3), (RX4, TX4, 7), (RX5, TX5, 6), (RX6, TX6, 4), (RX7, TX7, 16), (RX8, TX8, 1), (RX10, TX10, 7), (RX11, TX11, 8), (RX12, TX12, 12), (RX13, TX13, 63)]
def atv (ad : Nat → Nat) (v : Value) : Value := match v with
  | .ref a => .ref (ad a)
  | .int x => .int x
  | .long x => .long x
  | .float x => .float x
  | .double x => .double x
  | .null => .null
  | .retAddr x => .retAddr x
theorem atv_cat (ad : Nat → Nat) (v : Value) : (atv ad v).category = v.category := by cases v <;> rfl
def afv (ad : Nat → Nat) (S : aS) (i : Nat) (q : Nat × Nat) : Value := match q.1 with
  | 0 => .int (gi S i q.2)
  | 1 => .int (gi S i q.2)
  | 2 => .long (gl S i q.2)
  | 3 => .ref (ad (art i q.2))
  | _ => .ref (ad (gr S i q.2))
def arw (ad : Nat → Nat) (S : aS) (i : Nat) : (Nat → Int32) ⊕ (Nat → Int64) ⊕ (Nat → UInt32) ⊕ (Nat → UInt64) ⊕ (Nat → Option Nat) := match akd i % 10 with
  | 1 => .inr (.inl (S.2.2.2.2 i))
  | 4 => .inr (.inr (.inr (.inr fun k => some (ad (ara i k)))))
  | 5 => .inr (.inr (.inr (.inr fun k => some (ad (ara i k)))))
  | _ => .inl (S.2.2.2.1 i)
def ace (ad : Nat → Nat) (cy : Nat → ClassId) (S : aS) (i : Nat) : va_E := cond (Nat.blt (akd i) 20) (.inr (akd i, (aft (akd i)).zipIdx.map (afv ad S i))) (.inl (cy (akd i % 10), aln i, arw ad S i))
def aws (ad : Nat → Nat) (cy : Nat → ClassId) (ids : List Nat) (S : aS) : va_W := ids.map fun i => (ad i, ace ad cy S i)
abbrev atys (cy : Nat → ClassId) : List (ClassId × FieldType) := [(cy 0, .int), (cy 1, .long), (cy 2, .byte), (cy 3, .boolean), (cy 4, .object RX5), (cy 5, .object RX10)]
theorem ace_obj {ad : Nat → Nat} {cy : Nat → ClassId} {S : aS} {i c : Nat} (h : akd i = c) (hc : Nat.blt c 20 = true) : ace ad cy S i = .inr (c, (aft c).zipIdx.map (afv ad S i)) := by
  unfold ace
  rw [h, hc]
  rfl
theorem ace_arr {ad : Nat → Nat} {cy : Nat → ClassId} {S : aS} {i c : Nat} (h : akd i = c) (hc : Nat.blt c 20 = false) : ace ad cy S i = .inl (cy (c % 10), aln i, arw ad S i) := by
  unfold ace
  rw [h, hc]
  rfl
theorem arw_I {ad : Nat → Nat} {S : aS} {i c : Nat} (h : akd i = c) (hc : c % 10 = 0 ∨ c % 10 = 2 ∨ c % 10 = 3) : arw ad S i = .inl (S.2.2.2.1 i) := by
  unfold arw
  rw [h]
  rcases hc with hc | hc | hc <;> simp only [hc]
theorem arw_L {ad : Nat → Nat} {S : aS} {i c : Nat} (h : akd i = c) (hc : c % 10 = 1) : arw ad S i = .inr (.inl (S.2.2.2.2 i)) := by
  unfold arw
  simp only [h, hc]
theorem arw_R {ad : Nat → Nat} {S : aS} {i c : Nat} (h : akd i = c) (hc : c % 10 = 4 ∨ c % 10 = 5) : arw ad S i = .inr (.inr (.inr (.inr fun k => some (ad (ara i k))))) := by
  unfold arw
  rw [h]
  rcases hc with hc | hc <;> simp only [hc]
theorem aws_at {ad : Nat → Nat} {cy : Nat → ClassId} {ids : List Nat} {S : aS} {i : Nat} (h : i ∈ ids) : ∃ q0 : Nat, ids[q0]? = some i ∧ (aws ad cy ids S)[q0]? = some (ad i, ace ad cy S i) := by
  obtain ⟨q0, hq⟩ := List.getElem?_of_mem h
  exact ⟨q0, hq, by unfold aws; rw [List.getElem?_map, hq]; rfl⟩
theorem aws_set {ad : Nat → Nat} {cy : Nat → ClassId} {ids : List Nat} {S S' : aS} {i q0 : Nat} (hn : ids.Nodup) (h : ids[q0]? = some i) (hs : ∀ j, j ≠ i → ace ad cy S' j = ace ad cy S j) : (aws ad cy ids S).set q0 (ad i, ace ad cy S' i) = aws ad cy ids S' := by
  unfold aws
  apply List.ext_getElem?
  intro n
  rw [List.getElem?_set]
  by_cases e : q0 = n
  · subst e
    obtain ⟨hlt, _⟩ := List.getElem?_eq_some_iff.mp h
    rw [if_pos rfl, if_pos (by rw [List.length_map]; exact hlt), List.getElem?_map, h]
    rfl
  · rw [if_neg e, List.getElem?_map, List.getElem?_map]
    cases hj : ids[n]? with
    | none => rfl
    | some j =>
      have hne : j ≠ i := by
        intro hji
        subst hji
        obtain ⟨h1, h2⟩ := List.getElem?_eq_some_iff.mp h
        obtain ⟨h3, h4⟩ := List.getElem?_eq_some_iff.mp hj
        exact e ((List.getElem_inj hn).mp (h2.trans h4.symm))
      show some (ad j, ace ad cy S j) = some (ad j, ace ad cy S' j)
      rw [hs j hne]
theorem aft_get {ad : Nat → Nat} {S : aS} {i c k t : Nat} (h : (aft c)[k]? = some t) : ((aft c).zipIdx.map (afv ad S i))[k]? = some (afv ad S i (t, k)) := by
  rw [List.getElem?_map, List.getElem?_zipIdx, h]
  simp
theorem aft_len {ad : Nat → Nat} {S : aS} {i c : Nat} : ((aft c).zipIdx.map (afv ad S i)).length = (aft c).length := by
  rw [List.length_map, List.length_zipIdx]
/-- a field anew: the row of the fields -/
theorem aft_set {ad : Nat → Nat} {S S' : aS} {i c k t : Nat} {v : Value} (h : (aft c)[k]? = some t) (hv : afv ad S' i (t, k) = v) (ho : ∀ t' k', k' ≠ k → afv ad S' i (t', k') = afv ad S i (t', k')) : ((aft c).zipIdx.map (afv ad S i)).set k v = (aft c).zipIdx.map (afv ad S' i) := by
  apply List.ext_getElem?
  intro n
  rw [List.getElem?_set]
  by_cases e : k = n
  · subst e
    obtain ⟨hlt, _⟩ := List.getElem?_eq_some_iff.mp h
    rw [if_pos rfl, if_pos (by rw [aft_len]; exact hlt), aft_get h, hv]
  · rw [if_neg e, List.getElem?_map, List.getElem?_map, List.getElem?_zipIdx]
    cases hj : (aft c)[n]? with
    | none => rfl
    | some t' =>
      simp only [Option.map_some, Nat.zero_add]
      rw [ho t' n (fun z => e z.symm)]
/-! what the setters leave alone -/
theorem ace_si {ad : Nat → Nat} {cy : Nat → ClassId} {S : aS} {i k : Nat} {v : Int32} (j : Nat) (h : j ≠ i) : ace ad cy (si S i k v) j = ace ad cy S j := by
  have e : afv ad (si S i k v) j = afv ad S j := by
    funext q
    unfold afv
    simp only [gi, gl, gr, si, va_up, if_neg h]
  unfold ace
  rw [e]
  rfl
theorem ace_sl {ad : Nat → Nat} {cy : Nat → ClassId} {S : aS} {i k : Nat} {v : Int64} (j : Nat) (h : j ≠ i) : ace ad cy (sl S i k v) j = ace ad cy S j := by
  have e : afv ad (sl S i k v) j = afv ad S j := by
    funext q
    unfold afv
    simp only [gi, gl, gr, sl, va_up, if_neg h]
  unfold ace
  rw [e]
  rfl
theorem ace_sr {ad : Nat → Nat} {cy : Nat → ClassId} {S : aS} {i k v : Nat} (j : Nat) (h : j ≠ i) : ace ad cy (sr S i k v) j = ace ad cy S j := by
  have e : afv ad (sr S i k v) j = afv ad S j := by
    funext q
    unfold afv
    simp only [gi, gl, gr, sr, va_up, if_neg h]
  unfold ace
  rw [e]
  rfl
theorem ace_sa {ad : Nat → Nat} {cy : Nat → ClassId} {S : aS} {i k : Nat} {v : Int32} (j : Nat) (h : j ≠ i) : ace ad cy (sa S i k v) j = ace ad cy S j := by
  have e : arw ad (sa S i k v) j = arw ad S j := by
    unfold arw
    simp only [sa, va_up, if_neg h]
  unfold ace
  rw [e]
  rfl
theorem ace_sb {ad : Nat → Nat} {cy : Nat → ClassId} {S : aS} {i k : Nat} {v : Int64} (j : Nat) (h : j ≠ i) : ace ad cy (sb S i k v) j = ace ad cy S j := by
  have e : arw ad (sb S i k v) j = arw ad S j := by
    unfold arw
    simp only [sb, va_up, if_neg h]
  unfold ace
  rw [e]
  rfl
/-! locals: what is known of them -/
def apr (ad : Nat → Nat) : Nat → aLs → List (Nat × Value)
  | _, [] => []
  | i, none :: t => apr ad (i + 1) t
  | i, some v :: t => (i, atv ad v) :: apr ad (i + 1) t
theorem apr_mem {ad : Nat → Nat} : ∀ (ls : aLs) (b : Nat) (q : Nat × Value), q ∈ apr ad b ls ↔ ∃ (i : Nat) (v : Value), ls[i]? = some (some v) ∧ q = (b + i, atv ad v) := by
  intro ls
  induction ls with
  | nil => intro b q; simp [apr]
  | cons x t ih =>
    intro b q
    cases x with
    | none =>
      rw [show apr ad b (none :: t) = apr ad (b + 1) t from rfl, ih]
      constructor
      · rintro ⟨i, v, h1, h2⟩
        exact ⟨i + 1, v, h1, by rw [h2]; congr 1; omega⟩
      · rintro ⟨i, v, h1, h2⟩
        cases i with
        | zero => cases h1
        | succ i => exact ⟨i, v, h1, by rw [h2]; congr 1; omega⟩
    | some w =>
      rw [show apr ad b (some w :: t) = (b, atv ad w) :: apr ad (b + 1) t from rfl, List.mem_cons, ih]
      constructor
      · rintro (h | ⟨i, v, h1, h2⟩)
        · exact ⟨0, w, rfl, h⟩
        · exact ⟨i + 1, v, h1, by rw [h2]; congr 1; omega⟩
      · rintro ⟨i, v, h1, h2⟩
        cases i with
        | zero => left; cases h1; exact h2
        | succ i => right; exact ⟨i, v, h1, by rw [h2]; congr 1; omega⟩
def aHas (ad : Nat → Nat) (A : Array Slot) (nL : Nat) (ls : aLs) : Prop := ls.length = nL ∧ lv_has A nL (apr ad 0 ls)
theorem aHas.at {ad : Nat → Nat} {A : Array Slot} {nL : Nat} {ls : aLs} (h : aHas ad A nL ls) {i : Nat} {v : Value} (hi : ls[i]? = some (some v)) : A[i]? = some (.val (atv ad v)) := by
  have := h.2.2.2 (i, atv ad v) ((apr_mem ls 0 _).mpr ⟨i, v, hi, by rw [Nat.zero_add]⟩)
  exact this
theorem acat2_cat {v : Value} : acat2 v = (v.category == 2) := by cases v <;> rfl
theorem akl_get {ls : aLs} {i j : Nat} {v : Value} (h : (akl ls i)[j]? = some (some v)) : ls[j]? = some (some v) ∧ (j + 1 == i && v.category == 2) = false := by
  unfold akl at h
  split at h
  · exact ⟨h, by simp⟩
  · rename_i k
    split at h
    · rename_i w hw
      cases hc : acat2 w with
      | true =>
        rw [hc] at h
        simp only [cond_true] at h
        rw [List.getElem?_set] at h
        by_cases e : k = j
        · rw [if_pos e] at h
          split at h <;> cases h
        · rw [if_neg e] at h
          refine ⟨h, ?_⟩
          have : (j + 1 == k + 1) = false := by simp; omega
          rw [this]; rfl
      | false =>
        rw [hc] at h
        simp only [cond_false] at h
        refine ⟨h, ?_⟩
        by_cases e : k = j
        · subst e
          rw [hw] at h
          cases h
          rw [acat2_cat] at hc
          rw [hc]
          simp
        · have : (j + 1 == k + 1) = false := by simp; omega
          rw [this]; rfl
    · rename_i hw
      refine ⟨h, ?_⟩
      by_cases e : k = j
      · subst e
        exact absurd h (hw v)
      · have : (j + 1 == k + 1) = false := by simp; omega
        rw [this]; rfl
theorem akl_len {ls : aLs} {i : Nat} : (akl ls i).length = ls.length := by
  unfold akl
  split
  · rfl
  · split
    · rename_i w _
      cases acat2 w <;> simp
    · rfl
theorem aHas.st1 {ad : Nat → Nat} {A A' : Array Slot} {nL i : Nat} {ls : aLs} {v : Value} (h : aHas ad A nL ls) (h' : lv_has A' nL ((i, atv ad v) :: (apr ad 0 ls).filter (fun q => !(q.1 == i) && !(q.1 + 1 == i && q.2.category == 2)))) : aHas ad A' nL (ast1 ls i v) := by
  refine ⟨by unfold ast1; rw [List.length_set, akl_len]; exact h.1, h'.1, h'.2.1, fun q hq => h'.2.2 q ?_⟩
  obtain ⟨j, w, h1, rfl⟩ := (apr_mem _ _ _).mp hq
  rw [Nat.zero_add]
  unfold ast1 at h1
  rw [List.getElem?_set] at h1
  by_cases e : i = j
  · subst e
    rw [if_pos rfl] at h1
    split at h1
    · cases h1; exact List.mem_cons_self
    · cases h1
  · rw [if_neg e] at h1
    obtain ⟨h2, h3⟩ := akl_get h1
    refine List.mem_cons_of_mem _ (List.mem_filter.mpr ⟨(apr_mem _ _ _).mpr ⟨j, w, h2, by rw [Nat.zero_add]⟩, ?_⟩)
    have e1 : (j == i) = false := by simp; exact fun z => e z.symm
    show (!(j == i) && !(j + 1 == i && (atv ad w).category == 2)) = true
    rw [atv_cat, h3, e1]
    rfl
theorem aHas.st2 {ad : Nat → Nat} {A A' : Array Slot} {nL i : Nat} {ls : aLs} {v : Value} (h : aHas ad A nL ls) (h' : lv_has A' nL ((i, atv ad v) :: (apr ad 0 ls).filter (fun q => !(q.1 == i) && (!(q.1 == i + 1) && !(q.1 + 1 == i && q.2.category == 2))))) : aHas ad A' nL (ast2 ls i v) := by
  refine ⟨by unfold ast2; rw [List.length_set, List.length_set, akl_len]; exact h.1, h'.1, h'.2.1, fun q hq => h'.2.2 q ?_⟩
  obtain ⟨j, w, h1, rfl⟩ := (apr_mem _ _ _).mp hq
  rw [Nat.zero_add]
  unfold ast2 at h1
  rw [List.getElem?_set] at h1
  by_cases e1 : i + 1 = j
  · rw [if_pos e1] at h1
    split at h1 <;> cases h1
  · rw [if_neg e1, List.getElem?_set] at h1
    by_cases e : i = j
    · subst e
      rw [if_pos rfl] at h1
      split at h1
      · cases h1; exact List.mem_cons_self
      · cases h1
    · rw [if_neg e] at h1
      obtain ⟨h2, h3⟩ := akl_get h1
      refine List.mem_cons_of_mem _ (List.mem_filter.mpr ⟨(apr_mem _ _ _).mpr ⟨j, w, h2, by rw [Nat.zero_add]⟩, ?_⟩)
      have e2 : (j == i) = false := by simp; exact fun z => e z.symm
      have e3 : (j == i + 1) = false := by simp; exact fun z => e1 z.symm
      show (!(j == i) && (!(j == i + 1) && !(j + 1 == i && (atv ad w).category == 2))) = true
      rw [atv_cat, h3, e2, e3]
      rfl
end
section
/-! the links of the fields and the constants, by a program: own class, number in its pool, class and place of the field -/
def aCN (n : Nat) : String := cond (Nat.ble n 6) (cond (Nat.ble n 2) (cond (Nat.ble n 0) (RX1) (cond (Nat.ble n 1) (RX2) (RX3))) (cond (Nat.ble n 4) (cond (Nat.ble n 3) (RX4) (RX5)) (cond (Nat.ble n 5) (RX6) (RX7)))) (cond (Nat.ble n 10) (cond (Nat.ble n 8) (cond (Nat.ble n 7) (RX8) (RX10)) (cond (Nat.ble n 9) (RX11) (RX12))) (cond (Nat.ble n 12) (cond (Nat.ble n 11) (RX13) (RL)) (cond (Nat.ble n 13) (RJ6) (RJ9))))
abbrev aQ : Type := Nat × Nat × Nat × Nat
def aNest (w : Cond) : Bool := match w with
  | .fieldLinkNest _ _ _ _ _ _ => true
  | .methodLinkNest _ _ _ _ => true
  | _ => false
/-- the words of nest mates -/
def aNW : List Cond := tables_1.filter aNest
theorem aN_t (i : Nat) {w : Cond} (h : tables_1[i]? = some w) (g : aNest w = true) : w ∈ aNW := List.mem_filter.mpr ⟨List.mem_of_getElem? h, g⟩
theorem aNW_warm {s U : State} (hW : s.WarmedH U.vm) (h : ∀ w ∈ aNW, va_Nw w s) : ∀ w ∈ aNW, va_Nw w U := by
  intro w hw
  have g := (List.mem_filter.mp hw).2
  have h1 := h w hw
  cases w <;> first | exact va_Nw.warmF hW h1 | exact va_Nw.warmM hW h1 | cases g
theorem aNW_same {s U : State} (hv : s.vm = U.vm) (h : ∀ w ∈ aNW, va_Nw w s) : ∀ w ∈ aNW, va_Nw w U := by
  intro w hw
  have g := (List.mem_filter.mp hw).2
  have h1 := h w hw
  cases w <;> first | exact va_Nw.same rfl hv h1 | cases g
def aLok (q : aQ) : Prop := ∃ r : vw_C, vwCl[q.2.2.1]? = some r ∧ q.2.2.2 < r.2.2 ∧ Cond.fieldLink (aCN q.1) q.2.1 (r.2.1 q.2.2.2).1 (r.2.1 q.2.2.2).2.1 (r.2.1 q.2.2.2).2.2.1 ∈ aWS
def aPok (q : aQ) : Prop := ∃ r : vw_C, vwCl[q.2.2.1]? = some r ∧ q.2.2.2 < r.2.2 ∧ (r.2.1 q.2.2.2).2.2.2 = false ∧ Cond.fieldLink (aCN q.1) q.2.1 (r.2.1 q.2.2.2).1 (r.2.1 q.2.2.2).2.1 (r.2.1 q.2.2.2).2.2.1 ∈ aWS
def aLNok (q : aQ) : Prop := ∃ r : vw_C, vwCl[q.2.2.1]? = some r ∧ q.2.2.2 < r.2.2 ∧ Cond.fieldLinkNest (aCN q.1) q.2.1 (r.2.1 q.2.2.2).1 (r.2.1 q.2.2.2).2.1 (r.2.1 q.2.2.2).2.2.1 RX12 ∈ aNW
def aPNok (q : aQ) : Prop := ∃ r : vw_C, vwCl[q.2.2.1]? = some r ∧ q.2.2.2 < r.2.2 ∧ (r.2.1 q.2.2.2).2.2.2 = false ∧ Cond.fieldLinkNest (aCN q.1) q.2.1 (r.2.1 q.2.2.2).1 (r.2.1 q.2.2.2).2.1 (r.2.1 q.2.2.2).2.2.1 RX12 ∈ aNW
theorem aLT_0 : aLok (0, 9, 0, 1) := ⟨(RX1, TX1, 6), rfl, by decide, aW_t 122 (by decide +kernel) (by decide +kernel)⟩
theorem aLT_1 : aLok (0, 13, 0, 2) := ⟨(RX1, TX1, 6), rfl, by decide, aW_t 123 (by decide +kernel) (by decide +kernel)⟩
theorem aLT_2 : aLok (0, 20, 0, 3) := ⟨(RX1, TX1, 6), rfl, by decide, aW_t 124 (by decide +kernel) (by decide +kernel)⟩
theorem aLT_3 : aLok (0, 23, 0, 4) := ⟨(RX1, TX1, 6), rfl, by decide, aW_t 125 (by decide +kernel) (by decide +kernel)⟩
theorem aLT_4 : aLok (0, 27, 0, 5) := ⟨(RX1, TX1, 6), rfl, by decide, aW_t 126 (by decide +kernel) (by decide +kernel)⟩
theorem aLT_5 : aLok (1, 9, 1, 0) := ⟨(RX2, TX2, 1), rfl, by decide, aW_t 88 (by decide +kernel) (by decide +kernel)⟩
theorem aLT_6 : aLok (2, 11, 2, 0) := ⟨(RX3, TX3, 3), rfl, by decide, aW_t 290 (by decide +kernel) (by decide +kernel)⟩
theorem aLT_7 : aLok (2, 18, 2, 1) := ⟨(RX3, TX3, 3), rfl, by decide, aW_t 291 (by decide +kernel) (by decide +kernel)⟩
theorem aLT_8 : aLok (2, 22, 2, 2) := ⟨(RX3, TX3, 3), rfl, by decide, aW_t 292 (by decide +kernel) (by decide +kernel)⟩
theorem aLT_9 : aLok (3, 9, 3, 0) := ⟨(RX4, TX4, 7), rfl, by decide, aW_t 309 (by decide +kernel) (by decide +kernel)⟩
theorem aLT_10 : aLok (3, 15, 3, 1) := ⟨(RX4, TX4, 7), rfl, by decide, aW_t 310 (by decide +kernel) (by decide +kernel)⟩
theorem aLT_11 : aLok (3, 18, 3, 2) := ⟨(RX4, TX4, 7), rfl, by decide, aW_t 311 (by decide +kernel) (by decide +kernel)⟩
theorem aLT_12 : aLok (3, 21, 3, 3) := ⟨(RX4, TX4, 7), rfl, by decide, aW_t 312 (by decide +kernel) (by decide +kernel)⟩
theorem aLT_13 : aLok (3, 24, 3, 4) := ⟨(RX4, TX4, 7), rfl, by decide, aW_t 314 (by decide +kernel) (by decide +kernel)⟩
theorem aLT_14 : aLok (3, 28, 3, 5) := ⟨(RX4, TX4, 7), rfl, by decide, aW_t 315 (by decide +kernel) (by decide +kernel)⟩
theorem aLT_15 : aLok (3, 88, 3, 6) := ⟨(RX4, TX4, 7), rfl, by decide, aW_t 316 (by decide +kernel) (by decide +kernel)⟩
theorem aLT_16 : aLok (4, 12, 4, 0) := ⟨(RX5, TX5, 6), rfl, by decide, aW_t 257 (by decide +kernel) (by decide +kernel)⟩
theorem aLT_17 : aLok (4, 18, 4, 1) := ⟨(RX5, TX5, 6), rfl, by decide, aW_t 259 (by decide +kernel) (by decide +kernel)⟩
theorem aLT_18 : aLok (4, 26, 4, 2) := ⟨(RX5, TX5, 6), rfl, by decide, aW_t 260 (by decide +kernel) (by decide +kernel)⟩
theorem aLT_19 : aLok (4, 30, 4, 3) := ⟨(RX5, TX5, 6), rfl, by decide, aW_t 262 (by decide +kernel) (by decide +kernel)⟩
theorem aLT_20 : aLok (4, 33, 4, 4) := ⟨(RX5, TX5, 6), rfl, by decide, aW_t 264 (by decide +kernel) (by decide +kernel)⟩
theorem aLT_21 : aLok (5, 9, 5, 2) := ⟨(RX6, TX6, 4), rfl, by decide, aW_t 95 (by decide +kernel) (by decide +kernel)⟩
theorem aLT_22 : aLok (5, 15, 5, 0) := ⟨(RX6, TX6, 4), rfl, by decide, aW_t 93 (by decide +kernel) (by decide +kernel)⟩
theorem aLT_23 : aLok (5, 24, 5, 1) := ⟨(RX6, TX6, 4), rfl, by decide, aW_t 94 (by decide +kernel) (by decide +kernel)⟩
theorem aLT_24 : aLok (5, 222, 5, 3) := ⟨(RX6, TX6, 4), rfl, by decide, aW_t 98 (by decide +kernel) (by decide +kernel)⟩
theorem aLT_25 : aLok (6, 9, 6, 1) := ⟨(RX7, TX7, 16), rfl, by decide, aW_t 146 (by decide +kernel) (by decide +kernel)⟩
theorem aLT_26 : aLok (6, 15, 6, 2) := ⟨(RX7, TX7, 16), rfl, by decide, aW_t 148 (by decide +kernel) (by decide +kernel)⟩
theorem aLT_27 : aLok (6, 19, 6, 4) := ⟨(RX7, TX7, 16), rfl, by decide, aW_t 153 (by decide +kernel) (by decide +kernel)⟩
theorem aLT_28 : aLok (6, 22, 6, 5) := ⟨(RX7, TX7, 16), rfl, by decide, aW_t 156 (by decide +kernel) (by decide +kernel)⟩
theorem aLT_29 : aLok (6, 25, 6, 6) := ⟨(RX7, TX7, 16), rfl, by decide, aW_t 159 (by decide +kernel) (by decide +kernel)⟩
theorem aLT_30 : aLok (6, 31, 6, 8) := ⟨(RX7, TX7, 16), rfl, by decide, aW_t 165 (by decide +kernel) (by decide +kernel)⟩
theorem aLT_31 : aLok (6, 34, 6, 9) := ⟨(RX7, TX7, 16), rfl, by decide, aW_t 167 (by decide +kernel) (by decide +kernel)⟩
theorem aLT_32 : aLok (6, 37, 6, 10) := ⟨(RX7, TX7, 16), rfl, by decide, aW_t 168 (by decide +kernel) (by decide +kernel)⟩
theorem aLT_33 : aLok (6, 45, 6, 14) := ⟨(RX7, TX7, 16), rfl, by decide, aW_t 179 (by decide +kernel) (by decide +kernel)⟩
theorem aLT_34 : aLok (6, 49, 6, 15) := ⟨(RX7, TX7, 16), rfl, by decide, aW_t 181 (by decide +kernel) (by decide +kernel)⟩
theorem aLT_35 : aLok (6, 52, 6, 12) := ⟨(RX7, TX7, 16), rfl, by decide, aW_t 171 (by decide +kernel) (by decide +kernel)⟩
theorem aLT_36 : aLok (6, 56, 6, 0) := ⟨(RX7, TX7, 16), rfl, by decide, aW_t 142 (by decide +kernel) (by decide +kernel)⟩
theorem aLT_37 : aLok (6, 59, 6, 3) := ⟨(RX7, TX7, 16), rfl, by decide, aW_t 150 (by decide +kernel) (by decide +kernel)⟩
theorem aLT_38 : aLok (6, 62, 6, 11) := ⟨(RX7, TX7, 16), rfl, by decide, aW_t 169 (by decide +kernel) (by decide +kernel)⟩
theorem aLT_39 : aLok (7, 9, 7, 0) := ⟨(RX8, TX8, 1), rfl, by decide, aW_t 339 (by decide +kernel) (by decide +kernel)⟩
theorem aLT_40 : aLok (8, 9, 8, 0) := ⟨(RX10, TX10, 7), rfl, by decide, aW_t 228 (by decide +kernel) (by decide +kernel)⟩
theorem aLT_41 : aLok (8, 15, 8, 1) := ⟨(RX10, TX10, 7), rfl, by decide, aW_t 230 (by decide +kernel) (by decide +kernel)⟩
theorem aLT_42 : aLok (8, 18, 8, 2) := ⟨(RX10, TX10, 7), rfl, by decide, aW_t 231 (by decide +kernel) (by decide +kernel)⟩
theorem aLT_43 : aLok (8, 30, 8, 3) := ⟨(RX10, TX10, 7), rfl, by decide, aW_t 232 (by decide +kernel) (by decide +kernel)⟩
theorem aLT_44 : aLok (8, 34, 8, 4) := ⟨(RX10, TX10, 7), rfl, by decide, aW_t 235 (by decide +kernel) (by decide +kernel)⟩
theorem aLT_45 : aLok (8, 37, 8, 5) := ⟨(RX10, TX10, 7), rfl, by decide, aW_t 238 (by decide +kernel) (by decide +kernel)⟩
theorem aLT_46 : aLok (8, 40, 8, 6) := ⟨(RX10, TX10, 7), rfl, by decide, aW_t 240 (by decide +kernel) (by decide +kernel)⟩
theorem aLT_47 : aLok (9, 9, 9, 0) := ⟨(RX11, TX11, 8), rfl, by decide, aW_t 43 (by decide +kernel) (by decide +kernel)⟩
theorem aLT_48 : aLok (9, 21, 9, 4) := ⟨(RX11, TX11, 8), rfl, by decide, aW_t 48 (by decide +kernel) (by decide +kernel)⟩
theorem aLT_49 : aLok (9, 24, 9, 1) := ⟨(RX11, TX11, 8), rfl, by decide, aW_t 45 (by decide +kernel) (by decide +kernel)⟩
theorem aLT_50 : aLok (9, 28, 9, 2) := ⟨(RX11, TX11, 8), rfl, by decide, aW_t 46 (by decide +kernel) (by decide +kernel)⟩
theorem aLT_51 : aLok (9, 37, 9, 3) := ⟨(RX11, TX11, 8), rfl, by decide, aW_t 47 (by decide +kernel) (by decide +kernel)⟩
theorem aLT_52 : aLok (9, 60, 9, 6) := ⟨(RX11, TX11, 8), rfl, by decide, aW_t 55 (by decide +kernel) (by decide +kernel)⟩
theorem aLT_53 : aLok (9, 66, 9, 5) := ⟨(RX11, TX11, 8), rfl, by decide, aW_t 53 (by decide +kernel) (by decide +kernel)⟩
theorem aLT_54 : aLok (10, 12, 10, 0) := ⟨(RX12, TX12, 12), rfl, by decide, aW_t 354 (by decide +kernel) (by decide +kernel)⟩
theorem aLT_55 : aLok (10, 21, 10, 1) := ⟨(RX12, TX12, 12), rfl, by decide, aW_t 355 (by decide +kernel) (by decide +kernel)⟩
theorem aLT_56 : aLok (10, 28, 10, 2) := ⟨(RX12, TX12, 12), rfl, by decide, aW_t 356 (by decide +kernel) (by decide +kernel)⟩
theorem aLT_57 : aLok (10, 32, 10, 3) := ⟨(RX12, TX12, 12), rfl, by decide, aW_t 357 (by decide +kernel) (by decide +kernel)⟩
theorem aLT_58 : aLok (10, 38, 10, 4) := ⟨(RX12, TX12, 12), rfl, by decide, aW_t 358 (by decide +kernel) (by decide +kernel)⟩
theorem aLT_59 : aLok (10, 42, 10, 5) := ⟨(RX12, TX12, 12), rfl, by decide, aW_t 359 (by decide +kernel) (by decide +kernel)⟩
theorem aLT_60 : aLok (10, 49, 10, 6) := ⟨(RX12, TX12, 12), rfl, by decide, aW_t 360 (by decide +kernel) (by decide +kernel)⟩
theorem aLT_61 : aLok (10, 56, 10, 7) := ⟨(RX12, TX12, 12), rfl, by decide, aW_t 361 (by decide +kernel) (by decide +kernel)⟩
theorem aLT_62 : aLok (10, 63, 10, 8) := ⟨(RX12, TX12, 12), rfl, by decide, aW_t 362 (by decide +kernel) (by decide +kernel)⟩
theorem aLT_63 : aLok (10, 70, 10, 9) := ⟨(RX12, TX12, 12), rfl, by decide, aW_t 363 (by decide +kernel) (by decide +kernel)⟩
theorem aLT_64 : aLok (10, 74, 10, 10) := ⟨(RX12, TX12, 12), rfl, by decide, aW_t 364 (by decide +kernel) (by decide +kernel)⟩
theorem aLT_65 : aLok (10, 78, 10, 11) := ⟨(RX12, TX12, 12), rfl, by decide, aW_t 365 (by decide +kernel) (by decide +kernel)⟩
theorem aLT_66 : aLok (11, 7, 11, 2) := ⟨(RX13, TX13, 63), rfl, by decide, aW_t 1258 (by decide +kernel) (by decide +kernel)⟩
theorem aLT_67 : aLok (11, 13, 11, 10) := ⟨(RX13, TX13, 63), rfl, by decide, aW_t 1266 (by decide +kernel) (by decide +kernel)⟩
theorem aLT_68 : aLok (11, 16, 11, 11) := ⟨(RX13, TX13, 63), rfl, by decide, aW_t 1267 (by decide +kernel) (by decide +kernel)⟩
theorem aLT_69 : aLok (11, 20, 11, 12) := ⟨(RX13, TX13, 63), rfl, by decide, aW_t 1268 (by decide +kernel) (by decide +kernel)⟩
theorem aLT_70 : aLok (11, 23, 11, 13) := ⟨(RX13, TX13, 63), rfl, by decide, aW_t 1269 (by decide +kernel) (by decide +kernel)⟩
theorem aLT_71 : aLok (11, 26, 11, 14) := ⟨(RX13, TX13, 63), rfl, by decide, aW_t 1270 (by decide +kernel) (by decide +kernel)⟩
theorem aLT_72 : aLok (11, 29, 11, 15) := ⟨(RX13, TX13, 63), rfl, by decide, aW_t 1271 (by decide +kernel) (by decide +kernel)⟩
theorem aLT_73 : aLok (11, 32, 11, 16) := ⟨(RX13, TX13, 63), rfl, by decide, aW_t 1272 (by decide +kernel) (by decide +kernel)⟩
theorem aLT_74 : aLok (11, 35, 11, 17) := ⟨(RX13, TX13, 63), rfl, by decide, aW_t 1273 (by decide +kernel) (by decide +kernel)⟩
theorem aLT_75 : aLok (11, 38, 11, 18) := ⟨(RX13, TX13, 63), rfl, by decide, aW_t 1274 (by decide +kernel) (by decide +kernel)⟩
theorem aLT_76 : aLok (11, 41, 11, 19) := ⟨(RX13, TX13, 63), rfl, by decide, aW_t 1275 (by decide +kernel) (by decide +kernel)⟩
theorem aLT_77 : aLok (11, 44, 11, 20) := ⟨(RX13, TX13, 63), rfl, by decide, aW_t 1276 (by decide +kernel) (by decide +kernel)⟩
theorem aLT_78 : aLok (11, 47, 11, 21) := ⟨(RX13, TX13, 63), rfl, by decide, aW_t 1277 (by decide +kernel) (by decide +kernel)⟩
theorem aLT_79 : aLok (11, 50, 11, 22) := ⟨(RX13, TX13, 63), rfl, by decide, aW_t 1278 (by decide +kernel) (by decide +kernel)⟩
theorem aLT_80 : aLok (11, 53, 11, 26) := ⟨(RX13, TX13, 63), rfl, by decide, aW_t 1282 (by decide +kernel) (by decide +kernel)⟩
theorem aLT_81 : aLok (11, 56, 11, 27) := ⟨(RX13, TX13, 63), rfl, by decide, aW_t 1283 (by decide +kernel) (by decide +kernel)⟩
theorem aLT_82 : aLok (11, 60, 11, 28) := ⟨(RX13, TX13, 63), rfl, by decide, aW_t 1284 (by decide +kernel) (by decide +kernel)⟩
theorem aLT_83 : aLok (11, 63, 11, 29) := ⟨(RX13, TX13, 63), rfl, by decide, aW_t 1285 (by decide +kernel) (by decide +kernel)⟩
theorem aLT_84 : aLok (11, 66, 11, 30) := ⟨(RX13, TX13, 63), rfl, by decide, aW_t 1286 (by decide +kernel) (by decide +kernel)⟩
theorem aLT_85 : aLok (11, 69, 11, 31) := ⟨(RX13, TX13, 63), rfl, by decide, aW_t 1287 (by decide +kernel) (by decide +kernel)⟩
theorem aLT_86 : aLok (11, 72, 11, 32) := ⟨(RX13, TX13, 63), rfl, by decide, aW_t 1288 (by decide +kernel) (by decide +kernel)⟩
theorem aLT_87 : aLok (11, 75, 11, 33) := ⟨(RX13, TX13, 63), rfl, by decide, aW_t 1289 (by decide +kernel) (by decide +kernel)⟩
theorem aLT_88 : aLok (11, 78, 11, 34) := ⟨(RX13, TX13, 63), rfl, by decide, aW_t 1290 (by decide +kernel) (by decide +kernel)⟩
theorem aLT_89 : aLok (11, 81, 11, 35) := ⟨(RX13, TX13, 63), rfl, by decide, aW_t 1291 (by decide +kernel) (by decide +kernel)⟩
theorem aLT_90 : aLok (11, 84, 11, 36) := ⟨(RX13, TX13, 63), rfl, by decide, aW_t 1292 (by decide +kernel) (by decide +kernel)⟩
theorem aLT_91 : aLok (11, 87, 11, 37) := ⟨(RX13, TX13, 63), rfl, by decide, aW_t 1293 (by decide +kernel) (by decide +kernel)⟩
theorem aLT_92 : aLok (11, 90, 11, 40) := ⟨(RX13, TX13, 63), rfl, by decide, aW_t 1296 (by decide +kernel) (by decide +kernel)⟩
theorem aLT_93 : aLok (11, 93, 11, 41) := ⟨(RX13, TX13, 63), rfl, by decide, aW_t 1297 (by decide +kernel) (by decide +kernel)⟩
theorem aLT_94 : aLok (11, 96, 11, 42) := ⟨(RX13, TX13, 63), rfl, by decide, aW_t 1298 (by decide +kernel) (by decide +kernel)⟩
theorem aLT_95 : aLok (11, 99, 11, 43) := ⟨(RX13, TX13, 63), rfl, by decide, aW_t 1299 (by decide +kernel) (by decide +kernel)⟩
theorem aLT_96 : aLok (11, 102, 11, 44) := ⟨(RX13, TX13, 63), rfl, by decide, aW_t 1300 (by decide +kernel) (by decide +kernel)⟩
theorem aLT_97 : aLok (11, 105, 11, 45) := ⟨(RX13, TX13, 63), rfl, by decide, aW_t 1301 (by decide +kernel) (by decide +kernel)⟩
theorem aLT_98 : aLok (11, 108, 11, 46) := ⟨(RX13, TX13, 63), rfl, by decide, aW_t 1302 (by decide +kernel) (by decide +kernel)⟩
theorem aLT_99 : aLok (11, 111, 11, 47) := ⟨(RX13, TX13, 63), rfl, by decide, aW_t 1303 (by decide +kernel) (by decide +kernel)⟩
theorem aLT_100 : aLok (11, 114, 11, 48) := ⟨(RX13, TX13, 63), rfl, by decide, aW_t 1304 (by decide +kernel) (by decide +kernel)⟩
theorem aLT_101 : aLok (11, 117, 11, 49) := ⟨(RX13, TX13, 63), rfl, by decide, aW_t 1305 (by decide +kernel) (by decide +kernel)⟩
theorem aLT_102 : aLok (11, 120, 11, 54) := ⟨(RX13, TX13, 63), rfl, by decide, aW_t 1310 (by decide +kernel) (by decide +kernel)⟩
theorem aLT_103 : aLok (11, 123, 11, 55) := ⟨(RX13, TX13, 63), rfl, by decide, aW_t 1311 (by decide +kernel) (by decide +kernel)⟩
theorem aLT_104 : aLok (11, 126, 11, 60) := ⟨(RX13, TX13, 63), rfl, by decide, aW_t 1316 (by decide +kernel) (by decide +kernel)⟩
theorem aLT_105 : aLok (11, 129, 11, 61) := ⟨(RX13, TX13, 63), rfl, by decide, aW_t 1317 (by decide +kernel) (by decide +kernel)⟩
theorem aLT_106 : aLok (11, 135, 11, 0) := ⟨(RX13, TX13, 63), rfl, by decide, aW_t 1256 (by decide +kernel) (by decide +kernel)⟩
theorem aLT_107 : aLok (11, 141, 11, 1) := ⟨(RX13, TX13, 63), rfl, by decide, aW_t 1257 (by decide +kernel) (by decide +kernel)⟩
theorem aLT_108 : aLok (11, 144, 11, 3) := ⟨(RX13, TX13, 63), rfl, by decide, aW_t 1259 (by decide +kernel) (by decide +kernel)⟩
theorem aLT_109 : aLok (11, 147, 11, 4) := ⟨(RX13, TX13, 63), rfl, by decide, aW_t 1260 (by decide +kernel) (by decide +kernel)⟩
theorem aLT_110 : aLok (11, 150, 11, 5) := ⟨(RX13, TX13, 63), rfl, by decide, aW_t 1261 (by decide +kernel) (by decide +kernel)⟩
theorem aLT_111 : aLok (11, 153, 11, 7) := ⟨(RX13, TX13, 63), rfl, by decide, aW_t 1263 (by decide +kernel) (by decide +kernel)⟩
theorem aLT_112 : aLok (11, 157, 11, 8) := ⟨(RX13, TX13, 63), rfl, by decide, aW_t 1264 (by decide +kernel) (by decide +kernel)⟩
theorem aLT_113 : aLok (11, 160, 11, 6) := ⟨(RX13, TX13, 63), rfl, by decide, aW_t 1262 (by decide +kernel) (by decide +kernel)⟩
theorem aLT_114 : aLok (11, 171, 11, 9) := ⟨(RX13, TX13, 63), rfl, by decide, aW_t 1265 (by decide +kernel) (by decide +kernel)⟩
theorem aLT_115 : aLok (11, 174, 11, 23) := ⟨(RX13, TX13, 63), rfl, by decide, aW_t 1279 (by decide +kernel) (by decide +kernel)⟩
theorem aLT_116 : aLok (11, 177, 11, 24) := ⟨(RX13, TX13, 63), rfl, by decide, aW_t 1280 (by decide +kernel) (by decide +kernel)⟩
theorem aLT_117 : aLok (11, 273, 11, 38) := ⟨(RX13, TX13, 63), rfl, by decide, aW_t 1294 (by decide +kernel) (by decide +kernel)⟩
theorem aLT_118 : aLok (11, 290, 11, 39) := ⟨(RX13, TX13, 63), rfl, by decide, aW_t 1295 (by decide +kernel) (by decide +kernel)⟩
theorem aLT_119 : aLok (11, 305, 11, 25) := ⟨(RX13, TX13, 63), rfl, by decide, aW_t 1281 (by decide +kernel) (by decide +kernel)⟩
theorem aLT_120 : aLok (11, 343, 11, 50) := ⟨(RX13, TX13, 63), rfl, by decide, aW_t 1306 (by decide +kernel) (by decide +kernel)⟩
theorem aLT_121 : aLok (11, 391, 11, 51) := ⟨(RX13, TX13, 63), rfl, by decide, aW_t 1307 (by decide +kernel) (by decide +kernel)⟩
theorem aLT_122 : aLok (11, 430, 11, 52) := ⟨(RX13, TX13, 63), rfl, by decide, aW_t 1308 (by decide +kernel) (by decide +kernel)⟩
theorem aLT_123 : aLok (11, 433, 11, 53) := ⟨(RX13, TX13, 63), rfl, by decide, aW_t 1309 (by decide +kernel) (by decide +kernel)⟩
theorem aLT_124 : aLok (11, 450, 11, 57) := ⟨(RX13, TX13, 63), rfl, by decide, aW_t 1313 (by decide +kernel) (by decide +kernel)⟩
theorem aLT_125 : aLok (11, 453, 11, 56) := ⟨(RX13, TX13, 63), rfl, by decide, aW_t 1312 (by decide +kernel) (by decide +kernel)⟩
theorem aLT_126 : aLok (11, 456, 11, 58) := ⟨(RX13, TX13, 63), rfl, by decide, aW_t 1314 (by decide +kernel) (by decide +kernel)⟩
theorem aLT_127 : aLok (11, 459, 11, 59) := ⟨(RX13, TX13, 63), rfl, by decide, aW_t 1315 (by decide +kernel) (by decide +kernel)⟩
theorem aLT_128 : aLok (11, 506, 11, 62) := ⟨(RX13, TX13, 63), rfl, by decide, aW_t 1318 (by decide +kernel) (by decide +kernel)⟩
def aLT : List aQ := [(0, 9, 0, 1), (0, 13, 0, 2), (0, 20, 0, 3), (0, 23, 0, 4), (0, 27, 0, 5), (1, 9, 1, 0), (2, 11, 2, 0), (2, 18, 2, 1), (2, 22, 2, 2), (3, 9, 3, 0), (3, 15, 3, 1), (3, 18, 3, 2), (3, 21, 3, 3), (3, 24, 3, 4), (3, 28, 3, 5), (3, 88, 3, 6), (4, 12, 4, 0), (4, 18, 4, 1), (4, 26, 4, 2), (4, 30, 4, 3), (4, 33, 4, 4), (5, 9, 5, 2), (5, 15, 5, 0), (5, 24, 5, 1), (5, 222, 5, 3), (6, 9, 6, 1), (6, 15, 6, 2), (6, 19, 6, 4), (6, 22, 6, 5), (6, 25, 6, 6), (6, 31, 6, 8), (6, 34, 6, 9), (6, 37, 6, 10), (6, 45, 6, 14), (6, 49, 6, 15), (6, 52, 6, 12), (6, 56, 6, 0), (6, 59, 6, 3), (6, 62, 6, 11), (7, 9, 7, 0), (8, 9, 8, 0), (8, 15, 8, 1), (8, 18, 8, 2), (8, 30, 8, 3), (8, 34, 8, 4), (8, 37, 8, 5), (8, 40, 8, 6), (9, 9, 9, 0), (9, 21, 9, 4), (9, 24, 9, 1), (9, 28, 9, 2), (9, 37, 9, 3), (9, 60, 9, 6), (9, 66, 9, 5), (10, 12, 10, 0), (10, 21, 10, 1), (10, 28, 10, 2), (10, 32, 10, 3), (10, 38, 10, 4), (10, 42, 10, 5), (10, 49, 10, 6), (10, 56, 10, 7), (10, 63, 10, 8), (10, 70, 10, 9), (10, 74, 10, 10), (10, 78, 10, 11), (11, 7, 11, 2), (11, 13, 11, 10), (11, 16, 11, 11), (11, 20, 11, 12), (11, 23, 11, 13), (11, 26, 11, 14), (11, 29, 11, 15), (11, 32, 11, 16), (11, 35, 11, 17), (11, 38, 11, 18), (11, 41, 11, 19), (11, 44, 11, 20), (11, 47, 11, 21), (11, 50, 11, 22), (11, 53, 11, 26), (11, 56, 11, 27), (11, 60, 11, 28), (11, 63, 11, 29), (11, 66, 11, 30), (11, 69, 11, 31), (11, 72, 11, 32), (11, 75, 11, 33), (11, 78, 11, 34), (11, 81, 11, 35), (11, 84, 11, 36), (11, 87, 11, 37), (11, 90, 11, 40), (11, 93, 11, 41), (11, 96, 11, 42), (11, 99, 11, 43), (11, 102, 11, 44), (11, 105, 11, 45), (11, 108, 11, 46), (11, 111, 11, 47), (11, 114, 11, 48), (11, 117, 11, 49), (11, 120, 11, 54), (11, 123, 11, 55), (11, 126, 11, 60), (11, 129, 11, 61), (11, 135, 11, 0), (11, 141, 11, 1), (11, 144, 11, 3), (11, 147, 11, 4), (11, 150, 11, 5), (11, 153, 11, 7), (11, 157, 11, 8), (11, 160, 11, 6), (11, 171, 11, 9), (11, 174, 11, 23), (11, 177, 11, 24), (11, 273, 11, 38), (11, 290, 11, 39), (11, 305, 11, 25), (11, 343, 11, 50), (11, 391, 11, 51), (11, 430, 11, 52), (11, 433, 11, 53), (11, 450, 11, 57), (11, 453, 11, 56), (11, 456, 11, 58), (11, 459, 11, 59), (11, 506, 11, 62)]
set_option maxRecDepth 100000 in
theorem aLT_ok : ∀ q ∈ aLT, aLok q := List.forall_mem_cons.mpr ⟨aLT_0, List.forall_mem_cons.mpr ⟨aLT_1, List.forall_mem_cons.mpr ⟨aLT_2, List.forall_mem_cons.mpr ⟨aLT_3, List.forall_mem_cons.mpr ⟨aLT_4, List.forall_mem_cons.mpr ⟨aLT_5, List.forall_mem_cons.mpr ⟨aLT_6, List.forall_mem_cons.mpr ⟨aLT_7, List.forall_mem_cons.mpr ⟨aLT_8, List.forall_mem_cons.mpr ⟨aLT_9, List.forall_mem_cons.mpr ⟨aLT_10, List.forall_mem_cons.mpr ⟨aLT_11, List.forall_mem_cons.mpr ⟨aLT_12, List.forall_mem_cons.mpr ⟨aLT_13, List.forall_mem_cons.mpr ⟨aLT_14, List.forall_mem_cons.mpr ⟨aLT_15, List.forall_mem_cons.mpr ⟨aLT_16, List.forall_mem_cons.mpr ⟨aLT_17, List.forall_mem_cons.mpr ⟨aLT_18, List.forall_mem_cons.mpr ⟨aLT_19, List.forall_mem_cons.mpr ⟨aLT_20, List.forall_mem_cons.mpr ⟨aLT_21, List.forall_mem_cons.mpr ⟨aLT_22, List.forall_mem_cons.mpr ⟨aLT_23, List.forall_mem_cons.mpr ⟨aLT_24, List.forall_mem_cons.mpr ⟨aLT_25, List.forall_mem_cons.mpr ⟨aLT_26, List.forall_mem_cons.mpr ⟨aLT_27, List.forall_mem_cons.mpr ⟨aLT_28, List.forall_mem_cons.mpr ⟨aLT_29, List.forall_mem_cons.mpr ⟨aLT_30, List.forall_mem_cons.mpr ⟨aLT_31, List.forall_mem_cons.mpr ⟨aLT_32, List.forall_mem_cons.mpr ⟨aLT_33, List.forall_mem_cons.mpr ⟨aLT_34, List.forall_mem_cons.mpr ⟨aLT_35, List.forall_mem_cons.mpr ⟨aLT_36, List.forall_mem_cons.mpr ⟨aLT_37, List.forall_mem_cons.mpr ⟨aLT_38, List.forall_mem_cons.mpr ⟨aLT_39, List.forall_mem_cons.mpr ⟨aLT_40, List.forall_mem_cons.mpr ⟨aLT_41, List.forall_mem_cons.mpr ⟨aLT_42, List.forall_mem_cons.mpr ⟨aLT_43, List.forall_mem_cons.mpr ⟨aLT_44, List.forall_mem_cons.mpr ⟨aLT_45, List.forall_mem_cons.mpr ⟨aLT_46, List.forall_mem_cons.mpr ⟨aLT_47, List.forall_mem_cons.mpr ⟨aLT_48, List.forall_mem_cons.mpr ⟨aLT_49, List.forall_mem_cons.mpr ⟨aLT_50, List.forall_mem_cons.mpr ⟨aLT_51, List.forall_mem_cons.mpr ⟨aLT_52, List.forall_mem_cons.mpr ⟨aLT_53, List.forall_mem_cons.mpr ⟨aLT_54, List.forall_mem_cons.mpr ⟨aLT_55, List.forall_mem_cons.mpr ⟨aLT_56, List.forall_mem_cons.mpr ⟨aLT_57, List.forall_mem_cons.mpr ⟨aLT_58, List.forall_mem_cons.mpr ⟨aLT_59, List.forall_mem_cons.mpr ⟨aLT_60, List.forall_mem_cons.mpr ⟨aLT_61, List.forall_mem_cons.mpr ⟨aLT_62, List.forall_mem_cons.mpr ⟨aLT_63, List.forall_mem_cons.mpr ⟨aLT_64, List.forall_mem_cons.mpr ⟨aLT_65, List.forall_mem_cons.mpr ⟨aLT_66, List.forall_mem_cons.mpr ⟨aLT_67, List.forall_mem_cons.mpr ⟨aLT_68, List.forall_mem_cons.mpr ⟨aLT_69, List.forall_mem_cons.mpr ⟨aLT_70, List.forall_mem_cons.mpr ⟨aLT_71, List.forall_mem_cons.mpr ⟨aLT_72, List.forall_mem_cons.mpr ⟨aLT_73, List.forall_mem_cons.mpr ⟨aLT_74, List.forall_mem_cons.mpr ⟨aLT_75, List.forall_mem_cons.mpr ⟨aLT_76, List.forall_mem_cons.mpr ⟨aLT_77, List.forall_mem_cons.mpr ⟨aLT_78, List.forall_mem_cons.mpr ⟨aLT_79, List.forall_mem_cons.mpr ⟨aLT_80, List.forall_mem_cons.mpr ⟨aLT_81, List.forall_mem_cons.mpr ⟨aLT_82, List.forall_mem_cons.mpr ⟨aLT_83, List.forall_mem_cons.mpr ⟨aLT_84, List.forall_mem_cons.mpr ⟨aLT_85, List.forall_mem_cons.mpr ⟨aLT_86, List.forall_mem_cons.mpr ⟨aLT_87, List.forall_mem_cons.mpr ⟨aLT_88, List.forall_mem_cons.mpr ⟨aLT_89, List.forall_mem_cons.mpr ⟨aLT_90, List.forall_mem_cons.mpr ⟨aLT_91, List.forall_mem_cons.mpr ⟨aLT_92, List.forall_mem_cons.mpr ⟨aLT_93, List.forall_mem_cons.mpr ⟨aLT_94, List.forall_mem_cons.mpr ⟨aLT_95, List.forall_mem_cons.mpr ⟨aLT_96, List.forall_mem_cons.mpr ⟨aLT_97, List.forall_mem_cons.mpr ⟨aLT_98, List.forall_mem_cons.mpr ⟨aLT_99, List.forall_mem_cons.mpr ⟨aLT_100, List.forall_mem_cons.mpr ⟨aLT_101, List.forall_mem_cons.mpr ⟨aLT_102, List.forall_mem_cons.mpr ⟨aLT_103, List.forall_mem_cons.mpr ⟨aLT_104, List.forall_mem_cons.mpr ⟨aLT_105, List.forall_mem_cons.mpr ⟨aLT_106, List.forall_mem_cons.mpr ⟨aLT_107, List.forall_mem_cons.mpr ⟨aLT_108, List.forall_mem_cons.mpr ⟨aLT_109, List.forall_mem_cons.mpr ⟨aLT_110, List.forall_mem_cons.mpr ⟨aLT_111, List.forall_mem_cons.mpr ⟨aLT_112, List.forall_mem_cons.mpr ⟨aLT_113, List.forall_mem_cons.mpr ⟨aLT_114, List.forall_mem_cons.mpr ⟨aLT_115, List.forall_mem_cons.mpr ⟨aLT_116, List.forall_mem_cons.mpr ⟨aLT_117, List.forall_mem_cons.mpr ⟨aLT_118, List.forall_mem_cons.mpr ⟨aLT_119, List.forall_mem_cons.mpr ⟨aLT_120, List.forall_mem_cons.mpr ⟨aLT_121, List.forall_mem_cons.mpr ⟨aLT_122, List.forall_mem_cons.mpr ⟨aLT_123, List.forall_mem_cons.mpr ⟨aLT_124, List.forall_mem_cons.mpr ⟨aLT_125, List.forall_mem_cons.mpr ⟨aLT_126, List.forall_mem_cons.mpr ⟨aLT_127, List.forall_mem_cons.mpr ⟨aLT_128, fun _ h => absurd h List.not_mem_nil⟩⟩⟩⟩⟩⟩⟩⟩⟩⟩⟩⟩⟩⟩⟩⟩⟩⟩⟩⟩⟩⟩⟩⟩⟩⟩⟩⟩⟩⟩⟩⟩⟩⟩⟩⟩⟩⟩⟩⟩⟩⟩⟩⟩⟩⟩⟩⟩⟩⟩⟩⟩⟩⟩⟩⟩⟩⟩⟩⟩⟩⟩⟩⟩⟩⟩⟩⟩⟩⟩⟩⟩⟩⟩⟩⟩⟩⟩⟩⟩⟩⟩⟩⟩⟩⟩⟩⟩⟩⟩⟩⟩⟩⟩⟩⟩⟩⟩⟩⟩⟩⟩⟩⟩⟩⟩⟩⟩⟩⟩⟩⟩⟩⟩⟩⟩⟩⟩⟩⟩⟩⟩⟩⟩⟩⟩⟩⟩⟩
theorem aPT_0 : aPok (0, 23, 0, 4) := ⟨(RX1, TX1, 6), rfl, by decide, by decide +kernel, aW_t 125 (by decide +kernel) (by decide +kernel)⟩
theorem aPT_1 : aPok (0, 27, 0, 5) := ⟨(RX1, TX1, 6), rfl, by decide, by decide +kernel, aW_t 126 (by decide +kernel) (by decide +kernel)⟩
theorem aPT_2 : aPok (2, 18, 2, 1) := ⟨(RX3, TX3, 3), rfl, by decide, by decide +kernel, aW_t 291 (by decide +kernel) (by decide +kernel)⟩
theorem aPT_3 : aPok (2, 22, 2, 2) := ⟨(RX3, TX3, 3), rfl, by decide, by decide +kernel, aW_t 292 (by decide +kernel) (by decide +kernel)⟩
theorem aPT_4 : aPok (3, 88, 3, 6) := ⟨(RX4, TX4, 7), rfl, by decide, by decide +kernel, aW_t 316 (by decide +kernel) (by decide +kernel)⟩
theorem aPT_5 : aPok (4, 26, 4, 2) := ⟨(RX5, TX5, 6), rfl, by decide, by decide +kernel, aW_t 260 (by decide +kernel) (by decide +kernel)⟩
theorem aPT_6 : aPok (4, 30, 4, 3) := ⟨(RX5, TX5, 6), rfl, by decide, by decide +kernel, aW_t 262 (by decide +kernel) (by decide +kernel)⟩
theorem aPT_7 : aPok (4, 33, 4, 4) := ⟨(RX5, TX5, 6), rfl, by decide, by decide +kernel, aW_t 264 (by decide +kernel) (by decide +kernel)⟩
theorem aPT_8 : aPok (5, 222, 5, 3) := ⟨(RX6, TX6, 4), rfl, by decide, by decide +kernel, aW_t 98 (by decide +kernel) (by decide +kernel)⟩
theorem aPT_9 : aPok (6, 52, 6, 12) := ⟨(RX7, TX7, 16), rfl, by decide, by decide +kernel, aW_t 171 (by decide +kernel) (by decide +kernel)⟩
theorem aPT_10 : aPok (6, 56, 6, 0) := ⟨(RX7, TX7, 16), rfl, by decide, by decide +kernel, aW_t 142 (by decide +kernel) (by decide +kernel)⟩
theorem aPT_11 : aPok (6, 59, 6, 3) := ⟨(RX7, TX7, 16), rfl, by decide, by decide +kernel, aW_t 150 (by decide +kernel) (by decide +kernel)⟩
theorem aPT_12 : aPok (6, 62, 6, 11) := ⟨(RX7, TX7, 16), rfl, by decide, by decide +kernel, aW_t 169 (by decide +kernel) (by decide +kernel)⟩
theorem aPT_13 : aPok (6, 65, 6, 13) := ⟨(RX7, TX7, 16), rfl, by decide, by decide +kernel, aW_t 177 (by decide +kernel) (by decide +kernel)⟩
theorem aPT_14 : aPok (8, 30, 8, 3) := ⟨(RX10, TX10, 7), rfl, by decide, by decide +kernel, aW_t 232 (by decide +kernel) (by decide +kernel)⟩
theorem aPT_15 : aPok (8, 34, 8, 4) := ⟨(RX10, TX10, 7), rfl, by decide, by decide +kernel, aW_t 235 (by decide +kernel) (by decide +kernel)⟩
theorem aPT_16 : aPok (8, 37, 8, 5) := ⟨(RX10, TX10, 7), rfl, by decide, by decide +kernel, aW_t 238 (by decide +kernel) (by decide +kernel)⟩
theorem aPT_17 : aPok (8, 40, 8, 6) := ⟨(RX10, TX10, 7), rfl, by decide, by decide +kernel, aW_t 240 (by decide +kernel) (by decide +kernel)⟩
theorem aPT_18 : aPok (9, 21, 9, 4) := ⟨(RX11, TX11, 8), rfl, by decide, by decide +kernel, aW_t 48 (by decide +kernel) (by decide +kernel)⟩
theorem aPT_19 : aPok (9, 24, 9, 1) := ⟨(RX11, TX11, 8), rfl, by decide, by decide +kernel, aW_t 45 (by decide +kernel) (by decide +kernel)⟩
theorem aPT_20 : aPok (9, 28, 9, 2) := ⟨(RX11, TX11, 8), rfl, by decide, by decide +kernel, aW_t 46 (by decide +kernel) (by decide +kernel)⟩
theorem aPT_21 : aPok (9, 31, 9, 7) := ⟨(RX11, TX11, 8), rfl, by decide, by decide +kernel, aW_t 57 (by decide +kernel) (by decide +kernel)⟩
theorem aPT_22 : aPok (9, 37, 9, 3) := ⟨(RX11, TX11, 8), rfl, by decide, by decide +kernel, aW_t 47 (by decide +kernel) (by decide +kernel)⟩
theorem aPT_23 : aPok (9, 60, 9, 6) := ⟨(RX11, TX11, 8), rfl, by decide, by decide +kernel, aW_t 55 (by decide +kernel) (by decide +kernel)⟩
theorem aPT_24 : aPok (9, 66, 9, 5) := ⟨(RX11, TX11, 8), rfl, by decide, by decide +kernel, aW_t 53 (by decide +kernel) (by decide +kernel)⟩
theorem aPT_25 : aPok (10, 28, 10, 2) := ⟨(RX12, TX12, 12), rfl, by decide, by decide +kernel, aW_t 356 (by decide +kernel) (by decide +kernel)⟩
theorem aPT_26 : aPok (10, 32, 10, 3) := ⟨(RX12, TX12, 12), rfl, by decide, by decide +kernel, aW_t 357 (by decide +kernel) (by decide +kernel)⟩
theorem aPT_27 : aPok (11, 135, 11, 0) := ⟨(RX13, TX13, 63), rfl, by decide, by decide +kernel, aW_t 1256 (by decide +kernel) (by decide +kernel)⟩
theorem aPT_28 : aPok (11, 141, 11, 1) := ⟨(RX13, TX13, 63), rfl, by decide, by decide +kernel, aW_t 1257 (by decide +kernel) (by decide +kernel)⟩
theorem aPT_29 : aPok (11, 144, 11, 3) := ⟨(RX13, TX13, 63), rfl, by decide, by decide +kernel, aW_t 1259 (by decide +kernel) (by decide +kernel)⟩
theorem aPT_30 : aPok (11, 147, 11, 4) := ⟨(RX13, TX13, 63), rfl, by decide, by decide +kernel, aW_t 1260 (by decide +kernel) (by decide +kernel)⟩
theorem aPT_31 : aPok (11, 150, 11, 5) := ⟨(RX13, TX13, 63), rfl, by decide, by decide +kernel, aW_t 1261 (by decide +kernel) (by decide +kernel)⟩
theorem aPT_32 : aPok (11, 153, 11, 7) := ⟨(RX13, TX13, 63), rfl, by decide, by decide +kernel, aW_t 1263 (by decide +kernel) (by decide +kernel)⟩
theorem aPT_33 : aPok (11, 157, 11, 8) := ⟨(RX13, TX13, 63), rfl, by decide, by decide +kernel, aW_t 1264 (by decide +kernel) (by decide +kernel)⟩
theorem aPT_34 : aPok (11, 160, 11, 6) := ⟨(RX13, TX13, 63), rfl, by decide, by decide +kernel, aW_t 1262 (by decide +kernel) (by decide +kernel)⟩
theorem aPT_35 : aPok (11, 171, 11, 9) := ⟨(RX13, TX13, 63), rfl, by decide, by decide +kernel, aW_t 1265 (by decide +kernel) (by decide +kernel)⟩
theorem aPT_36 : aPok (11, 174, 11, 23) := ⟨(RX13, TX13, 63), rfl, by decide, by decide +kernel, aW_t 1279 (by decide +kernel) (by decide +kernel)⟩
theorem aPT_37 : aPok (11, 177, 11, 24) := ⟨(RX13, TX13, 63), rfl, by decide, by decide +kernel, aW_t 1280 (by decide +kernel) (by decide +kernel)⟩
theorem aPT_38 : aPok (11, 273, 11, 38) := ⟨(RX13, TX13, 63), rfl, by decide, by decide +kernel, aW_t 1294 (by decide +kernel) (by decide +kernel)⟩
theorem aPT_39 : aPok (11, 290, 11, 39) := ⟨(RX13, TX13, 63), rfl, by decide, by decide +kernel, aW_t 1295 (by decide +kernel) (by decide +kernel)⟩
theorem aPT_40 : aPok (11, 305, 11, 25) := ⟨(RX13, TX13, 63), rfl, by decide, by decide +kernel, aW_t 1281 (by decide +kernel) (by decide +kernel)⟩
theorem aPT_41 : aPok (11, 343, 11, 50) := ⟨(RX13, TX13, 63), rfl, by decide, by decide +kernel, aW_t 1306 (by decide +kernel) (by decide +kernel)⟩
theorem aPT_42 : aPok (11, 391, 11, 51) := ⟨(RX13, TX13, 63), rfl, by decide, by decide +kernel, aW_t 1307 (by decide +kernel) (by decide +kernel)⟩
theorem aPT_43 : aPok (11, 430, 11, 52) := ⟨(RX13, TX13, 63), rfl, by decide, by decide +kernel, aW_t 1308 (by decide +kernel) (by decide +kernel)⟩
theorem aPT_44 : aPok (11, 433, 11, 53) := ⟨(RX13, TX13, 63), rfl, by decide, by decide +kernel, aW_t 1309 (by decide +kernel) (by decide +kernel)⟩
theorem aPT_45 : aPok (11, 450, 11, 57) := ⟨(RX13, TX13, 63), rfl, by decide, by decide +kernel, aW_t 1313 (by decide +kernel) (by decide +kernel)⟩
theorem aPT_46 : aPok (11, 453, 11, 56) := ⟨(RX13, TX13, 63), rfl, by decide, by decide +kernel, aW_t 1312 (by decide +kernel) (by decide +kernel)⟩
theorem aPT_47 : aPok (11, 456, 11, 58) := ⟨(RX13, TX13, 63), rfl, by decide, by decide +kernel, aW_t 1314 (by decide +kernel) (by decide +kernel)⟩
theorem aPT_48 : aPok (11, 459, 11, 59) := ⟨(RX13, TX13, 63), rfl, by decide, by decide +kernel, aW_t 1315 (by decide +kernel) (by decide +kernel)⟩
theorem aPT_49 : aPok (11, 506, 11, 62) := ⟨(RX13, TX13, 63), rfl, by decide, by decide +kernel, aW_t 1318 (by decide +kernel) (by decide +kernel)⟩
def aPT : List aQ := [(0, 23, 0, 4), (0, 27, 0, 5), (2, 18, 2, 1), (2, 22, 2, 2), (3, 88, 3, 6), (4, 26, 4, 2), (4, 30, 4, 3), (4, 33, 4, 4), (5, 222, 5, 3), (6, 52, 6, 12), (6, 56, 6, 0), (6, 59, 6, 3), (6, 62, 6, 11), (6, 65, 6, 13), (8, 30, 8, 3), (8, 34, 8, 4), (8, 37, 8, 5), (8, 40, 8, 6), (9, 21, 9, 4), (9, 24, 9, 1), (9, 28, 9, 2), (9, 31, 9, 7), (9, 37, 9, 3), (9, 60, 9, 6), (9, 66, 9, 5), (10, 28, 10, 2), (10, 32, 10, 3), (11, 135, 11, 0), (11, 141, 11, 1), (11, 144, 11, 3), (11, 147, 11, 4), (11, 150, 11, 5), (11, 153, 11, 7), (11, 157, 11, 8), (11, 160, 11, 6), (11, 171, 11, 9), (11, 174, 11, 23), (11, 177, 11, 24), (11, 273, 11, 38), (11, 290, 11, 39), (11, 305, 11, 25), (11, 343, 11, 50), (11, 391, 11, 51), (11, 430, 11, 52), (11, 433, 11, 53), (11, 450, 11, 57), (11, 453, 11, 56), (11, 456, 11, 58), (11, 459, 11, 59), (11, 506, 11, 62)]
set_option maxRecDepth 100000 in
theorem aPT_ok : ∀ q ∈ aPT, aPok q := List.forall_mem_cons.mpr ⟨aPT_0, List.forall_mem_cons.mpr ⟨aPT_1, List.forall_mem_cons.mpr ⟨aPT_2, List.forall_mem_cons.mpr ⟨aPT_3, List.forall_mem_cons.mpr ⟨aPT_4, List.forall_mem_cons.mpr ⟨aPT_5, List.forall_mem_cons.mpr ⟨aPT_6, List.forall_mem_cons.mpr ⟨aPT_7, List.forall_mem_cons.mpr ⟨aPT_8, List.forall_mem_cons.mpr ⟨aPT_9, List.forall_mem_cons.mpr ⟨aPT_10, List.forall_mem_cons.mpr ⟨aPT_11, List.forall_mem_cons.mpr ⟨aPT_12, List.forall_mem_cons.mpr ⟨aPT_13, List.forall_mem_cons.mpr ⟨aPT_14, List.forall_mem_cons.mpr ⟨aPT_15, List.forall_mem_cons.mpr ⟨aPT_16, List.forall_mem_cons.mpr ⟨aPT_17, List.forall_mem_cons.mpr ⟨aPT_18, List.forall_mem_cons.mpr ⟨aPT_19, List.forall_mem_cons.mpr ⟨aPT_20, List.forall_mem_cons.mpr ⟨aPT_21, List.forall_mem_cons.mpr ⟨aPT_22, List.forall_mem_cons.mpr ⟨aPT_23, List.forall_mem_cons.mpr ⟨aPT_24, List.forall_mem_cons.mpr ⟨aPT_25, List.forall_mem_cons.mpr ⟨aPT_26, List.forall_mem_cons.mpr ⟨aPT_27, List.forall_mem_cons.mpr ⟨aPT_28, List.forall_mem_cons.mpr ⟨aPT_29, List.forall_mem_cons.mpr ⟨aPT_30, List.forall_mem_cons.mpr ⟨aPT_31, List.forall_mem_cons.mpr ⟨aPT_32, List.forall_mem_cons.mpr ⟨aPT_33, List.forall_mem_cons.mpr ⟨aPT_34, List.forall_mem_cons.mpr ⟨aPT_35, List.forall_mem_cons.mpr ⟨aPT_36, List.forall_mem_cons.mpr ⟨aPT_37, List.forall_mem_cons.mpr ⟨aPT_38, List.forall_mem_cons.mpr ⟨aPT_39, List.forall_mem_cons.mpr ⟨aPT_40, List.forall_mem_cons.mpr ⟨aPT_41, List.forall_mem_cons.mpr ⟨aPT_42, List.forall_mem_cons.mpr ⟨aPT_43, List.forall_mem_cons.mpr ⟨aPT_44, List.forall_mem_cons.mpr ⟨aPT_45, List.forall_mem_cons.mpr ⟨aPT_46, List.forall_mem_cons.mpr ⟨aPT_47, List.forall_mem_cons.mpr ⟨aPT_48, List.forall_mem_cons.mpr ⟨aPT_49, fun _ h => absurd h List.not_mem_nil⟩⟩⟩⟩⟩⟩⟩⟩⟩⟩⟩⟩⟩⟩⟩⟩⟩⟩⟩⟩⟩⟩⟩⟩⟩⟩⟩⟩⟩⟩⟩⟩⟩⟩⟩⟩⟩⟩⟩⟩⟩⟩⟩⟩⟩⟩⟩⟩⟩⟩
theorem aLN_0 : aLNok (1, 67, 0, 0) := ⟨(RX1, TX1, 6), rfl, by decide, aN_t 121 (by decide +kernel) (by decide +kernel)⟩
theorem aLN_1 : aLNok (1, 75, 9, 4) := ⟨(RX11, TX11, 8), rfl, by decide, aN_t 50 (by decide +kernel) (by decide +kernel)⟩
theorem aLN_2 : aLNok (1, 91, 9, 5) := ⟨(RX11, TX11, 8), rfl, by decide, aN_t 52 (by decide +kernel) (by decide +kernel)⟩
theorem aLN_3 : aLNok (3, 45, 8, 3) := ⟨(RX10, TX10, 7), rfl, by decide, aN_t 233 (by decide +kernel) (by decide +kernel)⟩
theorem aLN_4 : aLNok (3, 55, 8, 4) := ⟨(RX10, TX10, 7), rfl, by decide, aN_t 236 (by decide +kernel) (by decide +kernel)⟩
theorem aLN_5 : aLNok (3, 69, 6, 12) := ⟨(RX7, TX7, 16), rfl, by decide, aN_t 173 (by decide +kernel) (by decide +kernel)⟩
theorem aLN_6 : aLNok (5, 53, 9, 4) := ⟨(RX11, TX11, 8), rfl, by decide, aN_t 49 (by decide +kernel) (by decide +kernel)⟩
theorem aLN_7 : aLNok (5, 76, 6, 14) := ⟨(RX7, TX7, 16), rfl, by decide, aN_t 180 (by decide +kernel) (by decide +kernel)⟩
theorem aLN_8 : aLNok (5, 84, 6, 15) := ⟨(RX7, TX7, 16), rfl, by decide, aN_t 182 (by decide +kernel) (by decide +kernel)⟩
theorem aLN_9 : aLNok (5, 97, 9, 7) := ⟨(RX11, TX11, 8), rfl, by decide, aN_t 56 (by decide +kernel) (by decide +kernel)⟩
theorem aLN_10 : aLNok (5, 101, 6, 0) := ⟨(RX7, TX7, 16), rfl, by decide, aN_t 143 (by decide +kernel) (by decide +kernel)⟩
theorem aLN_11 : aLNok (5, 110, 6, 2) := ⟨(RX7, TX7, 16), rfl, by decide, aN_t 149 (by decide +kernel) (by decide +kernel)⟩
theorem aLN_12 : aLNok (5, 114, 9, 6) := ⟨(RX11, TX11, 8), rfl, by decide, aN_t 54 (by decide +kernel) (by decide +kernel)⟩
theorem aLN_13 : aLNok (5, 121, 6, 1) := ⟨(RX7, TX7, 16), rfl, by decide, aN_t 147 (by decide +kernel) (by decide +kernel)⟩
theorem aLN_14 : aLNok (5, 124, 6, 3) := ⟨(RX7, TX7, 16), rfl, by decide, aN_t 151 (by decide +kernel) (by decide +kernel)⟩
theorem aLN_15 : aLNok (5, 127, 6, 8) := ⟨(RX7, TX7, 16), rfl, by decide, aN_t 166 (by decide +kernel) (by decide +kernel)⟩
theorem aLN_16 : aLNok (5, 133, 6, 4) := ⟨(RX7, TX7, 16), rfl, by decide, aN_t 154 (by decide +kernel) (by decide +kernel)⟩
theorem aLN_17 : aLNok (5, 143, 6, 5) := ⟨(RX7, TX7, 16), rfl, by decide, aN_t 157 (by decide +kernel) (by decide +kernel)⟩
theorem aLN_18 : aLNok (5, 149, 6, 6) := ⟨(RX7, TX7, 16), rfl, by decide, aN_t 160 (by decide +kernel) (by decide +kernel)⟩
theorem aLN_19 : aLNok (5, 155, 6, 7) := ⟨(RX7, TX7, 16), rfl, by decide, aN_t 164 (by decide +kernel) (by decide +kernel)⟩
theorem aLN_20 : aLNok (5, 162, 9, 5) := ⟨(RX11, TX11, 8), rfl, by decide, aN_t 51 (by decide +kernel) (by decide +kernel)⟩
theorem aLN_21 : aLNok (5, 194, 6, 13) := ⟨(RX7, TX7, 16), rfl, by decide, aN_t 178 (by decide +kernel) (by decide +kernel)⟩
theorem aLN_22 : aLNok (5, 206, 0, 5) := ⟨(RX1, TX1, 6), rfl, by decide, aN_t 127 (by decide +kernel) (by decide +kernel)⟩
theorem aLN_23 : aLNok (7, 21, 6, 12) := ⟨(RX7, TX7, 16), rfl, by decide, aN_t 172 (by decide +kernel) (by decide +kernel)⟩
theorem aLN_24 : aLNok (8, 21, 6, 7) := ⟨(RX7, TX7, 16), rfl, by decide, aN_t 163 (by decide +kernel) (by decide +kernel)⟩
theorem aLN_25 : aLNok (8, 61, 6, 12) := ⟨(RX7, TX7, 16), rfl, by decide, aN_t 176 (by decide +kernel) (by decide +kernel)⟩
theorem aLN_26 : aLNok (8, 78, 6, 0) := ⟨(RX7, TX7, 16), rfl, by decide, aN_t 144 (by decide +kernel) (by decide +kernel)⟩
theorem aLN_27 : aLNok (10, 89, 9, 1) := ⟨(RX11, TX11, 8), rfl, by decide, aN_t 44 (by decide +kernel) (by decide +kernel)⟩
theorem aLN_28 : aLNok (10, 103, 4, 5) := ⟨(RX5, TX5, 6), rfl, by decide, aN_t 266 (by decide +kernel) (by decide +kernel)⟩
theorem aLN_29 : aLNok (10, 110, 5, 2) := ⟨(RX6, TX6, 4), rfl, by decide, aN_t 96 (by decide +kernel) (by decide +kernel)⟩
theorem aLN_30 : aLNok (10, 113, 5, 3) := ⟨(RX6, TX6, 4), rfl, by decide, aN_t 97 (by decide +kernel) (by decide +kernel)⟩
theorem aLN_31 : aLNok (10, 128, 6, 3) := ⟨(RX7, TX7, 16), rfl, by decide, aN_t 152 (by decide +kernel) (by decide +kernel)⟩
theorem aLN_32 : aLNok (10, 138, 6, 4) := ⟨(RX7, TX7, 16), rfl, by decide, aN_t 155 (by decide +kernel) (by decide +kernel)⟩
theorem aLN_33 : aLNok (10, 141, 6, 5) := ⟨(RX7, TX7, 16), rfl, by decide, aN_t 158 (by decide +kernel) (by decide +kernel)⟩
theorem aLN_34 : aLNok (10, 144, 6, 6) := ⟨(RX7, TX7, 16), rfl, by decide, aN_t 161 (by decide +kernel) (by decide +kernel)⟩
theorem aLN_35 : aLNok (10, 147, 4, 0) := ⟨(RX5, TX5, 6), rfl, by decide, aN_t 258 (by decide +kernel) (by decide +kernel)⟩
theorem aLN_36 : aLNok (10, 150, 8, 0) := ⟨(RX10, TX10, 7), rfl, by decide, aN_t 229 (by decide +kernel) (by decide +kernel)⟩
theorem aLN_37 : aLNok (10, 159, 8, 3) := ⟨(RX10, TX10, 7), rfl, by decide, aN_t 234 (by decide +kernel) (by decide +kernel)⟩
theorem aLN_38 : aLNok (10, 172, 6, 12) := ⟨(RX7, TX7, 16), rfl, by decide, aN_t 174 (by decide +kernel) (by decide +kernel)⟩
theorem aLN_39 : aLNok (10, 197, 8, 4) := ⟨(RX10, TX10, 7), rfl, by decide, aN_t 237 (by decide +kernel) (by decide +kernel)⟩
theorem aLN_40 : aLNok (10, 206, 8, 5) := ⟨(RX10, TX10, 7), rfl, by decide, aN_t 239 (by decide +kernel) (by decide +kernel)⟩
theorem aLN_41 : aLNok (10, 214, 4, 2) := ⟨(RX5, TX5, 6), rfl, by decide, aN_t 261 (by decide +kernel) (by decide +kernel)⟩
theorem aLN_42 : aLNok (10, 227, 8, 6) := ⟨(RX10, TX10, 7), rfl, by decide, aN_t 241 (by decide +kernel) (by decide +kernel)⟩
theorem aLN_43 : aLNok (10, 255, 3, 6) := ⟨(RX4, TX4, 7), rfl, by decide, aN_t 317 (by decide +kernel) (by decide +kernel)⟩
theorem aLN_44 : aLNok (10, 258, 3, 3) := ⟨(RX4, TX4, 7), rfl, by decide, aN_t 313 (by decide +kernel) (by decide +kernel)⟩
theorem aLN_45 : aLNok (10, 306, 4, 4) := ⟨(RX5, TX5, 6), rfl, by decide, aN_t 265 (by decide +kernel) (by decide +kernel)⟩
theorem aLN_46 : aLNok (10, 309, 4, 3) := ⟨(RX5, TX5, 6), rfl, by decide, aN_t 263 (by decide +kernel) (by decide +kernel)⟩
theorem aLN_47 : aLNok (10, 312, 6, 0) := ⟨(RX7, TX7, 16), rfl, by decide, aN_t 145 (by decide +kernel) (by decide +kernel)⟩
theorem aLN_48 : aLNok (10, 370, 6, 11) := ⟨(RX7, TX7, 16), rfl, by decide, aN_t 170 (by decide +kernel) (by decide +kernel)⟩
theorem aLN_49 : aLNok (10, 373, 2, 2) := ⟨(RX3, TX3, 3), rfl, by decide, aN_t 293 (by decide +kernel) (by decide +kernel)⟩
def aLN : List aQ := [(1, 67, 0, 0), (1, 75, 9, 4), (1, 91, 9, 5), (3, 45, 8, 3), (3, 55, 8, 4), (3, 69, 6, 12), (5, 53, 9, 4), (5, 76, 6, 14), (5, 84, 6, 15), (5, 97, 9, 7), (5, 101, 6, 0), (5, 110, 6, 2), (5, 114, 9, 6), (5, 121, 6, 1), (5, 124, 6, 3), (5, 127, 6, 8), (5, 133, 6, 4), (5, 143, 6, 5), (5, 149, 6, 6), (5, 155, 6, 7), (5, 162, 9, 5), (5, 194, 6, 13), (5, 206, 0, 5), (7, 21, 6, 12), (8, 21, 6, 7), (8, 61, 6, 12), (8, 78, 6, 0), (10, 89, 9, 1), (10, 103, 4, 5), (10, 110, 5, 2), (10, 113, 5, 3), (10, 128, 6, 3), (10, 138, 6, 4), (10, 141, 6, 5), (10, 144, 6, 6), (10, 147, 4, 0), (10, 150, 8, 0), (10, 159, 8, 3), (10, 172, 6, 12), (10, 197, 8, 4), (10, 206, 8, 5), (10, 214, 4, 2), (10, 227, 8, 6), (10, 255, 3, 6), (10, 258, 3, 3), (10, 306, 4, 4), (10, 309, 4, 3), (10, 312, 6, 0), (10, 370, 6, 11), (10, 373, 2, 2)]
set_option maxRecDepth 100000 in
theorem aLN_ok : ∀ q ∈ aLN, aLNok q := List.forall_mem_cons.mpr ⟨aLN_0, List.forall_mem_cons.mpr ⟨aLN_1, List.forall_mem_cons.mpr ⟨aLN_2, List.forall_mem_cons.mpr ⟨aLN_3, List.forall_mem_cons.mpr ⟨aLN_4, List.forall_mem_cons.mpr ⟨aLN_5, List.forall_mem_cons.mpr ⟨aLN_6, List.forall_mem_cons.mpr ⟨aLN_7, List.forall_mem_cons.mpr ⟨aLN_8, List.forall_mem_cons.mpr ⟨aLN_9, List.forall_mem_cons.mpr ⟨aLN_10, List.forall_mem_cons.mpr ⟨aLN_11, List.forall_mem_cons.mpr ⟨aLN_12, List.forall_mem_cons.mpr ⟨aLN_13, List.forall_mem_cons.mpr ⟨aLN_14, List.forall_mem_cons.mpr ⟨aLN_15, List.forall_mem_cons.mpr ⟨aLN_16, List.forall_mem_cons.mpr ⟨aLN_17, List.forall_mem_cons.mpr ⟨aLN_18, List.forall_mem_cons.mpr ⟨aLN_19, List.forall_mem_cons.mpr ⟨aLN_20, List.forall_mem_cons.mpr ⟨aLN_21, List.forall_mem_cons.mpr ⟨aLN_22, List.forall_mem_cons.mpr ⟨aLN_23, List.forall_mem_cons.mpr ⟨aLN_24, List.forall_mem_cons.mpr ⟨aLN_25, List.forall_mem_cons.mpr ⟨aLN_26, List.forall_mem_cons.mpr ⟨aLN_27, List.forall_mem_cons.mpr ⟨aLN_28, List.forall_mem_cons.mpr ⟨aLN_29, List.forall_mem_cons.mpr ⟨aLN_30, List.forall_mem_cons.mpr ⟨aLN_31, List.forall_mem_cons.mpr ⟨aLN_32, List.forall_mem_cons.mpr ⟨aLN_33, List.forall_mem_cons.mpr ⟨aLN_34, List.forall_mem_cons.mpr ⟨aLN_35, List.forall_mem_cons.mpr ⟨aLN_36, List.forall_mem_cons.mpr ⟨aLN_37, List.forall_mem_cons.mpr ⟨aLN_38, List.forall_mem_cons.mpr ⟨aLN_39, List.forall_mem_cons.mpr ⟨aLN_40, List.forall_mem_cons.mpr ⟨aLN_41, List.forall_mem_cons.mpr ⟨aLN_42, List.forall_mem_cons.mpr ⟨aLN_43, List.forall_mem_cons.mpr ⟨aLN_44, List.forall_mem_cons.mpr ⟨aLN_45, List.forall_mem_cons.mpr ⟨aLN_46, List.forall_mem_cons.mpr ⟨aLN_47, List.forall_mem_cons.mpr ⟨aLN_48, List.forall_mem_cons.mpr ⟨aLN_49, fun _ h => absurd h List.not_mem_nil⟩⟩⟩⟩⟩⟩⟩⟩⟩⟩⟩⟩⟩⟩⟩⟩⟩⟩⟩⟩⟩⟩⟩⟩⟩⟩⟩⟩⟩⟩⟩⟩⟩⟩⟩⟩⟩⟩⟩⟩⟩⟩⟩⟩⟩⟩⟩⟩⟩⟩
theorem aPN_0 : aPNok (5, 101, 6, 0) := ⟨(RX7, TX7, 16), rfl, by decide, by decide +kernel, aN_t 143 (by decide +kernel) (by decide +kernel)⟩
theorem aPN_1 : aPNok (5, 124, 6, 3) := ⟨(RX7, TX7, 16), rfl, by decide, by decide +kernel, aN_t 151 (by decide +kernel) (by decide +kernel)⟩
theorem aPN_2 : aPNok (5, 194, 6, 13) := ⟨(RX7, TX7, 16), rfl, by decide, by decide +kernel, aN_t 178 (by decide +kernel) (by decide +kernel)⟩
theorem aPN_3 : aPNok (5, 198, 6, 12) := ⟨(RX7, TX7, 16), rfl, by decide, by decide +kernel, aN_t 175 (by decide +kernel) (by decide +kernel)⟩
theorem aPN_4 : aPNok (10, 103, 4, 5) := ⟨(RX5, TX5, 6), rfl, by decide, by decide +kernel, aN_t 266 (by decide +kernel) (by decide +kernel)⟩
theorem aPN_5 : aPNok (10, 306, 4, 4) := ⟨(RX5, TX5, 6), rfl, by decide, by decide +kernel, aN_t 265 (by decide +kernel) (by decide +kernel)⟩
theorem aPN_6 : aPNok (10, 309, 4, 3) := ⟨(RX5, TX5, 6), rfl, by decide, by decide +kernel, aN_t 263 (by decide +kernel) (by decide +kernel)⟩
def aPN : List aQ := [(5, 101, 6, 0), (5, 124, 6, 3), (5, 194, 6, 13), (5, 198, 6, 12), (10, 103, 4, 5), (10, 306, 4, 4), (10, 309, 4, 3)]
set_option maxRecDepth 100000 in
theorem aPN_ok : ∀ q ∈ aPN, aPNok q := List.forall_mem_cons.mpr ⟨aPN_0, List.forall_mem_cons.mpr ⟨aPN_1, List.forall_mem_cons.mpr ⟨aPN_2, List.forall_mem_cons.mpr ⟨aPN_3, List.forall_mem_cons.mpr ⟨aPN_4, List.forall_mem_cons.mpr ⟨aPN_5, List.forall_mem_cons.mpr ⟨aPN_6, fun _ h => absurd h List.not_mem_nil⟩⟩⟩⟩⟩⟩⟩
theorem aCT_0 : Cond.constant (aCN 7) 33 (1000000) ∈ aWS := aW_t 1040 (by decide +kernel) (by decide +kernel)
theorem aCT_1 : Cond.constant (aCN 11) 474 (1000000) ∈ aWS := aW_t 1794 (by decide +kernel) (by decide +kernel)
theorem aCT_2 : Cond.constant (aCN 13) 265 (1431655765) ∈ aWS := aW_t 964 (by decide +kernel) (by decide +kernel)
theorem aCT_3 : Cond.constant (aCN 13) 266 (858993459) ∈ aWS := aW_t 965 (by decide +kernel) (by decide +kernel)
theorem aCT_4 : Cond.constant (aCN 13) 267 (252645135) ∈ aWS := aW_t 966 (by decide +kernel) (by decide +kernel)
def aCT : List (Nat × Nat × Int32) := [(7, 33, 1000000), (11, 474, 1000000), (13, 265, 1431655765), (13, 266, 858993459), (13, 267, 252645135)]
set_option maxRecDepth 100000 in
theorem aCT_ok : ∀ q ∈ aCT, Cond.constant (aCN q.1) q.2.1 q.2.2 ∈ aWS := List.forall_mem_cons.mpr ⟨aCT_0, List.forall_mem_cons.mpr ⟨aCT_1, List.forall_mem_cons.mpr ⟨aCT_2, List.forall_mem_cons.mpr ⟨aCT_3, List.forall_mem_cons.mpr ⟨aCT_4, fun _ h => absurd h List.not_mem_nil⟩⟩⟩⟩⟩
theorem aC2_0 : Cond.constantLong (aCN 3) 82 (1000000) ∈ aWS := aW_t 983 (by decide +kernel) (by decide +kernel)
theorem aC2_1 : Cond.constantLong (aCN 9) 64 (32) ∈ aWS := aW_t 431 (by decide +kernel) (by decide +kernel)
theorem aC2_2 : Cond.constantLong (aCN 10) 265 (1000) ∈ aWS := aW_t 1027 (by decide +kernel) (by decide +kernel)
theorem aC2_3 : Cond.constantLong (aCN 10) 277 (1000000) ∈ aWS := aW_t 1065 (by decide +kernel) (by decide +kernel)
theorem aC2_4 : Cond.constantLong (aCN 10) 353 (1103515245) ∈ aWS := aW_t 1140 (by decide +kernel) (by decide +kernel)
theorem aC2_5 : Cond.constantLong (aCN 10) 355 (12345) ∈ aWS := aW_t 1141 (by decide +kernel) (by decide +kernel)
theorem aC2_6 : Cond.constantLong (aCN 10) 357 (2147483648) ∈ aWS := aW_t 1142 (by decide +kernel) (by decide +kernel)
theorem aC2_7 : Cond.constantLong (aCN 10) 359 (65536) ∈ aWS := aW_t 1143 (by decide +kernel) (by decide +kernel)
theorem aC2_8 : Cond.constantLong (aCN 11) 139 (255) ∈ aWS := aW_t 1455 (by decide +kernel) (by decide +kernel)
theorem aC2_9 : Cond.constantLong (aCN 11) 167 (27) ∈ aWS := aW_t 1476 (by decide +kernel) (by decide +kernel)
theorem aC2_10 : Cond.constantLong (aCN 11) 169 (96) ∈ aWS := aW_t 1477 (by decide +kernel) (by decide +kernel)
theorem aC2_11 : Cond.constantLong (aCN 11) 180 (14431) ∈ aWS := aW_t 1578 (by decide +kernel) (by decide +kernel)
theorem aC2_12 : Cond.constantLong (aCN 11) 182 (267347) ∈ aWS := aW_t 1579 (by decide +kernel) (by decide +kernel)
theorem aC2_13 : Cond.constantLong (aCN 11) 184 (281317594) ∈ aWS := aW_t 1580 (by decide +kernel) (by decide +kernel)
theorem aC2_14 : Cond.constantLong (aCN 11) 186 (4351291) ∈ aWS := aW_t 1581 (by decide +kernel) (by decide +kernel)
theorem aC2_15 : Cond.constantLong (aCN 11) 188 (129415) ∈ aWS := aW_t 1582 (by decide +kernel) (by decide +kernel)
theorem aC2_16 : Cond.constantLong (aCN 11) 190 (10354323) ∈ aWS := aW_t 1583 (by decide +kernel) (by decide +kernel)
theorem aC2_17 : Cond.constantLong (aCN 11) 192 (267305) ∈ aWS := aW_t 1584 (by decide +kernel) (by decide +kernel)
theorem aC2_18 : Cond.constantLong (aCN 11) 194 (692581) ∈ aWS := aW_t 1585 (by decide +kernel) (by decide +kernel)
theorem aC2_19 : Cond.constantLong (aCN 11) 200 (10631) ∈ aWS := aW_t 1516 (by decide +kernel) (by decide +kernel)
theorem aC2_20 : Cond.constantLong (aCN 11) 220 (1111) ∈ aWS := aW_t 1517 (by decide +kernel) (by decide +kernel)
theorem aC2_21 : Cond.constantLong (aCN 11) 222 (423) ∈ aWS := aW_t 1518 (by decide +kernel) (by decide +kernel)
theorem aC2_22 : Cond.constantLong (aCN 11) 233 (339782679) ∈ aWS := aW_t 1478 (by decide +kernel) (by decide +kernel)
theorem aC2_23 : Cond.constantLong (aCN 11) 235 (464134) ∈ aWS := aW_t 1499 (by decide +kernel) (by decide +kernel)
theorem aC2_24 : Cond.constantLong (aCN 11) 237 (129361) ∈ aWS := aW_t 1500 (by decide +kernel) (by decide +kernel)
theorem aC2_25 : Cond.constantLong (aCN 11) 239 (332864552) ∈ aWS := aW_t 1501 (by decide +kernel) (by decide +kernel)
theorem aC2_26 : Cond.constantLong (aCN 11) 241 (149125) ∈ aWS := aW_t 1502 (by decide +kernel) (by decide +kernel)
theorem aC2_27 : Cond.constantLong (aCN 11) 243 (240023) ∈ aWS := aW_t 1503 (by decide +kernel) (by decide +kernel)
theorem aC2_28 : Cond.constantLong (aCN 11) 245 (6562612) ∈ aWS := aW_t 1504 (by decide +kernel) (by decide +kernel)
theorem aC2_29 : Cond.constantLong (aCN 11) 247 (1831769) ∈ aWS := aW_t 1505 (by decide +kernel) (by decide +kernel)
theorem aC2_30 : Cond.constantLong (aCN 11) 249 (3492766) ∈ aWS := aW_t 1506 (by decide +kernel) (by decide +kernel)
theorem aC2_31 : Cond.constantLong (aCN 11) 251 (339782680) ∈ aWS := aW_t 1507 (by decide +kernel) (by decide +kernel)
theorem aC2_32 : Cond.constantLong (aCN 11) 253 (89821) ∈ aWS := aW_t 1508 (by decide +kernel) (by decide +kernel)
theorem aC2_33 : Cond.constantLong (aCN 11) 255 (12584543) ∈ aWS := aW_t 1509 (by decide +kernel) (by decide +kernel)
theorem aC2_34 : Cond.constantLong (aCN 11) 257 (55175) ∈ aWS := aW_t 1510 (by decide +kernel) (by decide +kernel)
theorem aC2_35 : Cond.constantLong (aCN 11) 259 (316189) ∈ aWS := aW_t 1511 (by decide +kernel) (by decide +kernel)
theorem aC2_36 : Cond.constantLong (aCN 11) 261 (8740238) ∈ aWS := aW_t 1512 (by decide +kernel) (by decide +kernel)
theorem aC2_37 : Cond.constantLong (aCN 11) 263 (459788) ∈ aWS := aW_t 1513 (by decide +kernel) (by decide +kernel)
theorem aC2_38 : Cond.constantLong (aCN 11) 265 (459598) ∈ aWS := aW_t 1514 (by decide +kernel) (by decide +kernel)
theorem aC2_39 : Cond.constantLong (aCN 11) 267 (14200) ∈ aWS := aW_t 1515 (by decide +kernel) (by decide +kernel)
theorem aC2_40 : Cond.constantLong (aCN 11) 448 (1000000) ∈ aWS := aW_t 1760 (by decide +kernel) (by decide +kernel)
theorem aC2_41 : Cond.constantLong (aCN 11) 472 (1000) ∈ aWS := aW_t 1785 (by decide +kernel) (by decide +kernel)
theorem aC2_42 : Cond.constantLong (aCN 11) 509 (1103515245) ∈ aWS := aW_t 1878 (by decide +kernel) (by decide +kernel)
theorem aC2_43 : Cond.constantLong (aCN 11) 511 (12345) ∈ aWS := aW_t 1879 (by decide +kernel) (by decide +kernel)
theorem aC2_44 : Cond.constantLong (aCN 11) 513 (2147483648) ∈ aWS := aW_t 1880 (by decide +kernel) (by decide +kernel)
theorem aC2_45 : Cond.constantLong (aCN 11) 515 (65536) ∈ aWS := aW_t 1881 (by decide +kernel) (by decide +kernel)
theorem aC2_46 : Cond.constantLong (aCN 12) 19 (4294967295) ∈ aWS := aW_t 1898 (by decide +kernel) (by decide +kernel)
def aC2 : List (Nat × Nat × Int64) := [(3, 82, 1000000), (9, 64, 32), (10, 265, 1000), (10, 277, 1000000), (10, 353, 1103515245), (10, 355, 12345), (10, 357, 2147483648), (10, 359, 65536), (11, 139, 255), (11, 167, 27), (11, 169, 96), (11, 180, 14431), (11, 182, 267347), (11, 184, 281317594), (11, 186, 4351291), (11, 188, 129415), (11, 190, 10354323), (11, 192, 267305), (11, 194, 692581), (11, 200, 10631), (11, 220, 1111), (11, 222, 423), (11, 233, 339782679), (11, 235, 464134), (11, 237, 129361), (11, 239, 332864552), (11, 241, 149125), (11, 243, 240023), (11, 245, 6562612), (11, 247, 1831769), (11, 249, 3492766), (11, 251, 339782680), (11, 253, 89821), (11, 255, 12584543), (11, 257, 55175), (11, 259, 316189), (11, 261, 8740238), (11, 263, 459788), (11, 265, 459598), (11, 267, 14200), (11, 448, 1000000), (11, 472, 1000), (11, 509, 1103515245), (11, 511, 12345), (11, 513, 2147483648), (11, 515, 65536), (12, 19, 4294967295)]
set_option maxRecDepth 100000 in
theorem aC2_ok : ∀ q ∈ aC2, Cond.constantLong (aCN q.1) q.2.1 q.2.2 ∈ aWS := List.forall_mem_cons.mpr ⟨aC2_0, List.forall_mem_cons.mpr ⟨aC2_1, List.forall_mem_cons.mpr ⟨aC2_2, List.forall_mem_cons.mpr ⟨aC2_3, List.forall_mem_cons.mpr ⟨aC2_4, List.forall_mem_cons.mpr ⟨aC2_5, List.forall_mem_cons.mpr ⟨aC2_6, List.forall_mem_cons.mpr ⟨aC2_7, List.forall_mem_cons.mpr ⟨aC2_8, List.forall_mem_cons.mpr ⟨aC2_9, List.forall_mem_cons.mpr ⟨aC2_10, List.forall_mem_cons.mpr ⟨aC2_11, List.forall_mem_cons.mpr ⟨aC2_12, List.forall_mem_cons.mpr ⟨aC2_13, List.forall_mem_cons.mpr ⟨aC2_14, List.forall_mem_cons.mpr ⟨aC2_15, List.forall_mem_cons.mpr ⟨aC2_16, List.forall_mem_cons.mpr ⟨aC2_17, List.forall_mem_cons.mpr ⟨aC2_18, List.forall_mem_cons.mpr ⟨aC2_19, List.forall_mem_cons.mpr ⟨aC2_20, List.forall_mem_cons.mpr ⟨aC2_21, List.forall_mem_cons.mpr ⟨aC2_22, List.forall_mem_cons.mpr ⟨aC2_23, List.forall_mem_cons.mpr ⟨aC2_24, List.forall_mem_cons.mpr ⟨aC2_25, List.forall_mem_cons.mpr ⟨aC2_26, List.forall_mem_cons.mpr ⟨aC2_27, List.forall_mem_cons.mpr ⟨aC2_28, List.forall_mem_cons.mpr ⟨aC2_29, List.forall_mem_cons.mpr ⟨aC2_30, List.forall_mem_cons.mpr ⟨aC2_31, List.forall_mem_cons.mpr ⟨aC2_32, List.forall_mem_cons.mpr ⟨aC2_33, List.forall_mem_cons.mpr ⟨aC2_34, List.forall_mem_cons.mpr ⟨aC2_35, List.forall_mem_cons.mpr ⟨aC2_36, List.forall_mem_cons.mpr ⟨aC2_37, List.forall_mem_cons.mpr ⟨aC2_38, List.forall_mem_cons.mpr ⟨aC2_39, List.forall_mem_cons.mpr ⟨aC2_40, List.forall_mem_cons.mpr ⟨aC2_41, List.forall_mem_cons.mpr ⟨aC2_42, List.forall_mem_cons.mpr ⟨aC2_43, List.forall_mem_cons.mpr ⟨aC2_44, List.forall_mem_cons.mpr ⟨aC2_45, List.forall_mem_cons.mpr ⟨aC2_46, fun _ h => absurd h List.not_mem_nil⟩⟩⟩⟩⟩⟩⟩⟩⟩⟩⟩⟩⟩⟩⟩⟩⟩⟩⟩⟩⟩⟩⟩⟩⟩⟩⟩⟩⟩⟩⟩⟩⟩⟩⟩⟩⟩⟩⟩⟩⟩⟩⟩⟩⟩⟩⟩
/-- what the tables say of a class: its words, the types of its fields, their kinds -/
def atk (t : Nat) (ty : FieldType) : Bool := match t, ty with
  | 0, .int => true
  | 1, .boolean => true
  | 2, .long => true
  | 3, .object _ => true
  | 3, .array _ => true
  | 4, .object _ => true
  | _, _ => false
def aCk (ci : Nat) (r : vw_C) : Prop := (∀ w ∈ u_ws r.1 r.2.1 r.2.2, w ∈ aWS) ∧ ∃ ty0 : Nat → FieldType, (∀ k, k < r.2.2 → parseFieldDescriptor (r.2.1 k).2.2.1 = some (ty0 k)) ∧ (∀ a, a < r.2.2 → ∀ b, b < r.2.2 → a ≠ b → (r.2.1 a).2.1 ≠ (r.2.1 b).2.1) ∧ (aft ci).length = r.2.2 ∧ ∀ k, k < r.2.2 → atk ((aft ci).getD k 9) (ty0 k) = true
theorem aCk_0 : aCk 0 (RX1, TX1, 6) := ⟨inWX1, tyX1, tyX1_ok, nmX1, by decide +kernel, by decide +kernel⟩
theorem aCk_1 : aCk 1 (RX2, TX2, 1) := ⟨inWX2, tyX2, tyX2_ok, nmX2, by decide +kernel, by decide +kernel⟩
theorem aCk_2 : aCk 2 (RX3, TX3, 3) := ⟨inWX3, tyX3, tyX3_ok, nmX3, by decide +kernel, by decide +kernel⟩
theorem aCk_3 : aCk 3 (RX4, TX4, 7) := ⟨inWX4, tyX4, tyX4_ok, nmX4, by decide +kernel, by decide +kernel⟩
theorem aCk_4 : aCk 4 (RX5, TX5, 6) := ⟨inWX5, tyX5, tyX5_ok, nmX5, by decide +kernel, by decide +kernel⟩
theorem aCk_5 : aCk 5 (RX6, TX6, 4) := ⟨inWX6, tyX6, tyX6_ok, nmX6, by decide +kernel, by decide +kernel⟩
theorem aCk_6 : aCk 6 (RX7, TX7, 16) := ⟨inWX7, tyX7, tyX7_ok, nmX7, by decide +kernel, by decide +kernel⟩
theorem aCk_7 : aCk 7 (RX8, TX8, 1) := ⟨inWX8, tyX8, tyX8_ok, nmX8, by decide +kernel, by decide +kernel⟩
theorem aCk_8 : aCk 8 (RX10, TX10, 7) := ⟨inWX10, tyX10, tyX10_ok, nmX10, by decide +kernel, by decide +kernel⟩
theorem aCk_9 : aCk 9 (RX11, TX11, 8) := ⟨inWX11, tyX11, tyX11_ok, nmX11, by decide +kernel, by decide +kernel⟩
theorem aCk_10 : aCk 10 (RX12, TX12, 12) := ⟨inWX12, tyX12, tyX12_ok, nmX12, by decide +kernel, by decide +kernel⟩
theorem aCk_11 : aCk 11 (RX13, TX13, 63) := ⟨inWX13, tyX13, tyX13_ok, nmX13, by decide +kernel, by decide +kernel⟩
theorem aCk_ok : ∀ ci r, vwCl[ci]? = some r → aCk ci r := by
  intro ci r h
  match ci, h with
  | 0, h => cases h; exact aCk_0
  | 1, h => cases h; exact aCk_1
  | 2, h => cases h; exact aCk_2
  | 3, h => cases h; exact aCk_3
  | 4, h => cases h; exact aCk_4
  | 5, h => cases h; exact aCk_5
  | 6, h => cases h; exact aCk_6
  | 7, h => cases h; exact aCk_7
  | 8, h => cases h; exact aCk_8
  | 9, h => cases h; exact aCk_9
  | 10, h => cases h; exact aCk_10
  | 11, h => cases h; exact aCk_11
  | n + 12, h => cases h
end
section
/-! the true machine does what the small one says: instructions that go on to the next one -/
def aTP (t : aT) (Z : aLs → List Value → aS → Prop) : Prop := match t with
  | some (g1, g2, ls, st, S) => aG g1 (aG g2 (Z ls st S))
  | none => False
section
variable {Z : aLs → List Value → aS → Prop} {st : List Value}
theorem pI_inv {k : Int32 → List Value → aT} (h : aTP (pI st k) Z) : ∃ x r, st = .int x :: r ∧ aTP (k x r) Z := by
  unfold pI at h; split at h
  · exact ⟨_, _, rfl, h⟩
  · exact h.elim
theorem pII_inv {k : Int32 → Int32 → List Value → aT} (h : aTP (pII st k) Z) : ∃ x y r, st = .int y :: .int x :: r ∧ aTP (k x y r) Z := by
  unfold pII at h; split at h
  · exact ⟨_, _, _, rfl, h⟩
  · exact h.elim
theorem pL_inv {k : Int64 → List Value → aT} (h : aTP (pL st k) Z) : ∃ x r, st = .long x :: r ∧ aTP (k x r) Z := by
  unfold pL at h; split at h
  · exact ⟨_, _, rfl, h⟩
  · exact h.elim
theorem pLL_inv {k : Int64 → Int64 → List Value → aT} (h : aTP (pLL st k) Z) : ∃ x y r, st = .long y :: .long x :: r ∧ aTP (k x y r) Z := by
  unfold pLL at h; split at h
  · exact ⟨_, _, _, rfl, h⟩
  · exact h.elim
theorem pLI_inv {k : Int64 → Int32 → List Value → aT} (h : aTP (pLI st k) Z) : ∃ x y r, st = .int y :: .long x :: r ∧ aTP (k x y r) Z := by
  unfold pLI at h; split at h
  · exact ⟨_, _, _, rfl, h⟩
  · exact h.elim
theorem pR_inv {k : Nat → List Value → aT} (h : aTP (pR st k) Z) : ∃ x r, st = .ref x :: r ∧ aTP (k x r) Z := by
  unfold pR at h; split at h
  · exact ⟨_, _, rfl, h⟩
  · exact h.elim
theorem pRR_inv {k : Nat → Nat → List Value → aT} (h : aTP (pRR st k) Z) : ∃ x y r, st = .ref y :: .ref x :: r ∧ aTP (k x y r) Z := by
  unfold pRR at h; split at h
  · exact ⟨_, _, _, rfl, h⟩
  · exact h.elim
theorem pRI_inv {k : Nat → Int32 → List Value → aT} (h : aTP (pRI st k) Z) : ∃ x y r, st = .int y :: .ref x :: r ∧ aTP (k x y r) Z := by
  unfold pRI at h; split at h
  · exact ⟨_, _, _, rfl, h⟩
  · exact h.elim
theorem pRL_inv {k : Nat → Int64 → List Value → aT} (h : aTP (pRL st k) Z) : ∃ x y r, st = .long y :: .ref x :: r ∧ aTP (k x y r) Z := by
  unfold pRL at h; split at h
  · exact ⟨_, _, _, rfl, h⟩
  · exact h.elim
theorem pRII_inv {k : Nat → Int32 → Int32 → List Value → aT} (h : aTP (pRII st k) Z) : ∃ x i y r, st = .int y :: .int i :: .ref x :: r ∧ aTP (k x i y r) Z := by
  unfold pRII at h; split at h
  · exact ⟨_, _, _, _, rfl, h⟩
  · exact h.elim
theorem pRIL_inv {k : Nat → Int32 → Int64 → List Value → aT} (h : aTP (pRIL st k) Z) : ∃ x i y r, st = .long y :: .int i :: .ref x :: r ∧ aTP (k x i y r) Z := by
  unfold pRIL at h; split at h
  · exact ⟨_, _, _, _, rfl, h⟩
  · exact h.elim
theorem aldI_inv {ls : aLs} {i : Nat} {k : Int32 → aT} (h : aTP (aldI ls i k) Z) : ∃ x, ls[i]? = some (some (.int x)) ∧ aTP (k x) Z := by
  unfold aldI at h; split at h
  · rename_i x e; exact ⟨x, e, h⟩
  · exact h.elim
theorem aldL_inv {ls : aLs} {i : Nat} {k : Int64 → aT} (h : aTP (aldL ls i k) Z) : ∃ x, ls[i]? = some (some (.long x)) ∧ aTP (k x) Z := by
  unfold aldL at h; split at h
  · rename_i x e; exact ⟨x, e, h⟩
  · exact h.elim
theorem aldR_inv {ls : aLs} {i : Nat} {k : Nat → aT} (h : aTP (aldR ls i k) Z) : ∃ x, ls[i]? = some (some (.ref x)) ∧ aTP (k x) Z := by
  unfold aldR at h; split at h
  · rename_i x e; exact ⟨x, e, h⟩
  · exact h.elim
theorem aput_inv {ls : aLs} {i : Nat} {k : aT} (h : aTP (aput ls i k) Z) : i < ls.length ∧ aTP k Z := by
  unfold aput at h
  cases hb : Nat.blt i ls.length with
  | true => rw [hb] at h; exact ⟨Nat.le_of_ble_eq_true hb, h⟩
  | false => rw [hb] at h; exact h.elim
end
theorem aGK {a c : Nat} {X : Prop} (h : aG (gK a c) X) : akd a = c ∧ X := by
  unfold gK at h
  cases hb : Nat.beq (akd a) c with
  | true => rw [hb] at h; exact ⟨Nat.eq_of_beq_eq_true hb, h⟩
  | false => rw [hb] at h; exact h
/-- what holds wherever the method stands -/
def aCx (p : Program) (s : State) (m : MethodId) (args : Array Value) (c : Code) (cc : ByteArray) (nL on : Nat) (ad : Nat → Nat) (cy : Nat → ClassId) (D : va_G) (ids : List Nat) (A : Nat → Prop) (rk : Nat → Bool) (Zc : State → Prop) : Prop :=
  p.tables.exec = Jvm.exec ∧ c.code = cc ∧ c.maxLocals = nL ∧ s.vm.findClass (aCN on) = some m.cls ∧ (∀ w ∈ aWS, w.before args s = true) ∧ (∀ w ∈ aNW, va_Nw w s) ∧ va_K D vwCl (atys cy) s ∧ ids.Nodup ∧ (∀ i ∈ ids, A (ad i)) ∧ (∀ i j, i ∈ ids → j ∈ ids → ad i = ad j → i = j) ∧ (∀ i k, akd i = k → rk k = true → i ∈ ids) ∧ Zc s ∧ ∀ x y, 2000 ≤ x → x ≤ 2099 → 2000 ≤ y → y ≤ 2099 → ad x = ad y → x = y
/-- the true machine, at this place with these locals, this stack, this state, comes to Qs -/
def aWg (p : Program) (l : Launch) (e : Env) (R : Room) (s : State) (m : MethodId) (args : Array Value) (below : List Frame) (meth : Method) (c : Code) (nL : Nat) (ad : Nat → Nat) (cy : Nat → ClassId) (D : va_G) (ids : List Nat) (A : Nat → Prop) (Qs : State → Prop) (pc : Nat) (ls : aLs) (st : List Value) (S : aS) : Prop :=
  ∀ (B : Array Slot) (H : Heap) (locs : List Loc), aHas ad B nL ls → va_P D vwCl (aws ad cy ids S) H → va_S A s.heap H locs → W p l e R s m args below meth c H locs 0 0 Qs (F0 m pc B (st.map (atv ad)))
theorem aws_D {ad : Nat → Nat} {cy : Nat → ClassId} {ids : List Nat} {A : Nat → Prop} {S : aS} (hn : ids.Nodup) (hA : ∀ i ∈ ids, A (ad i)) (hi : ∀ i j, i ∈ ids → j ∈ ids → ad i = ad j → i = j) : va_D A (aws ad cy ids S) := by
  have get : ∀ (k : Nat) (q : Nat × va_E), (aws ad cy ids S)[k]? = some q → ∃ i, ids[k]? = some i ∧ q.1 = ad i := by
    intro k q h
    unfold aws at h
    rw [List.getElem?_map] at h
    cases hk : ids[k]? with
    | none => rw [hk] at h; cases h
    | some i => rw [hk] at h; cases h; exact ⟨i, rfl, rfl⟩
  constructor
  · intro i j p q h1 h2 e
    obtain ⟨a, ha, ea⟩ := get i p h1
    obtain ⟨b, hb, eb⟩ := get j q h2
    have := hi a b (List.mem_of_getElem? ha) (List.mem_of_getElem? hb) (ea.symm.trans (e.trans eb))
    subst this
    obtain ⟨h3, h4⟩ := List.getElem?_eq_some_iff.mp ha
    obtain ⟨h5, h6⟩ := List.getElem?_eq_some_iff.mp hb
    exact (List.getElem_inj hn).mp (h4.trans h6.symm)
  · intro k q h
    obtain ⟨a, ha, ea⟩ := get k q h
    rw [ea]
    exact hA a (List.mem_of_getElem? ha)
section
variable {p : Program} {l : Launch} {e : Env} {R : Room} {s : State} {m : MethodId} {args : Array Value} {below : List Frame} {meth : Method} {c : Code} {cc : ByteArray} {nL on : Nat} {ad : Nat → Nat} {cy : Nat → ClassId} {D : va_G} {ids : List Nat} {A : Nat → Prop} {rk : Nat → Bool} {Zc : State → Prop} {Qs : State → Prop} {pc : Nat} {B : Array Slot} {H : Heap} {locs : List Loc} {rest : List Value} {S : aS}
theorem r_get (X : aCx p s m args c cc nL on ad cy D ids A rk Zc) {i a k t : Nat} {x : Nat} (hd : decode cc pc = .ok (.getfield i, 3)) (hl : (on, i, a, k) ∈ aLT ∨ (on, i, a, k) ∈ aLN) (hr : rk a = true) (ht : (aft a)[k]? = some t) (hx : akd x = a) (hP : va_P D vwCl (aws ad cy ids S) H)
    (kk : W p l e R s m args below meth c H locs 0 0 Qs (F0 m (pc + 3) B (afv ad S x (t, k) :: rest))) : W p l e R s m args below meth c H locs 0 0 Qs (F0 m pc B (.ref (ad x) :: rest)) := by
  obtain ⟨hexec, hb, hml, hown, hts, hnw, hK, hn, hA, hi, hreg, hZ⟩ := X
  obtain ⟨q0, h1, h2⟩ := aws_at (ad := ad) (cy := cy) (S := S) (hreg x a hx hr)
  have ha : Nat.blt a 20 = true := by
    rcases hl with hl | hl
    · obtain ⟨r, h3, -⟩ := aLT_ok _ hl
      have : a < 12 := (List.getElem?_eq_some_iff.mp h3).1
      exact Nat.ble_eq_true_of_le (by omega)
    · obtain ⟨r, h3, -⟩ := aLN_ok _ hl
      have : a < 12 := (List.getElem?_eq_some_iff.mp h3).1
      exact Nat.ble_eq_true_of_le (by omega)
  rw [ace_obj hx ha] at h2
  rcases hl with hl | hl
  · obtain ⟨⟨C, T, N⟩, h3, h4, h5⟩ := aLT_ok _ hl
    exact va_get (D := D) hexec hb hts (aCk_ok a _ h3).1 hown hK hP q0 h2 h3 k h4 (hts _ h5) (fun _ h => h) (aft_get ht) hd kk
  · obtain ⟨⟨C, T, N⟩, h3, h4, h5⟩ := aLN_ok _ hl
    exact va_getN (D := D) hexec hb hts (aCk_ok a _ h3).1 hown hK hP q0 h2 h3 k h4 (va_Nw.use rfl (hnw _ h5)) (fun _ h => h) (aft_get ht) hd kk
theorem r_put (X : aCx p s m args c cc nL on ad cy D ids A rk Zc) {i a k t : Nat} {x : Nat} {v : Value} {S' : aS} (hd : decode cc pc = .ok (.putfield i, 3)) (hl : (on, i, a, k) ∈ aPT ∨ (on, i, a, k) ∈ aPN) (hr : rk a = true) (ht : (aft a)[k]? = some t) (hx : akd x = a) (hP : va_P D vwCl (aws ad cy ids S) H) (hS : va_S A s.heap H locs)
    (hfit : ∀ ty : FieldType, atk t ty = true → narrow ty v = v ∧ fits ty v = true) (hv : afv ad S' x (t, k) = v) (ho : ∀ t' k', k' ≠ k → afv ad S' x (t', k') = afv ad S x (t', k')) (hj : ∀ j, j ≠ x → ace ad cy S' j = ace ad cy S j)
    (kk : ∀ (H1 : Heap) (locs1 : List Loc), va_P D vwCl (aws ad cy ids S') H1 → va_S A s.heap H1 locs1 → W p l e R s m args below meth c H1 locs1 0 0 Qs (F0 m (pc + 3) B rest)) : W p l e R s m args below meth c H locs 0 0 Qs (F0 m pc B (v :: .ref (ad x) :: rest)) := by
  obtain ⟨hexec, hb, hml, hown, hts, hnw, hK, hn, hA, hi, hreg, hZ⟩ := X
  obtain ⟨q0, h1, h2⟩ := aws_at (ad := ad) (cy := cy) (S := S) (hreg x a hx hr)
  have ha : Nat.blt a 20 = true := by
    rcases hl with hl | hl
    · obtain ⟨r, h3, -⟩ := aPT_ok _ hl
      have : a < 12 := (List.getElem?_eq_some_iff.mp h3).1
      exact Nat.ble_eq_true_of_le (by omega)
    · obtain ⟨r, h3, -⟩ := aPN_ok _ hl
      have : a < 12 := (List.getElem?_eq_some_iff.mp h3).1
      exact Nat.ble_eq_true_of_le (by omega)
  have h2' := h2
  rw [ace_obj hx ha] at h2
  have hset : (aws ad cy ids S).set q0 (ad x, .inr (a, ((aft a).zipIdx.map (afv ad S x)).set k v)) = aws ad cy ids S' := by
    rw [aft_set ht hv ho, ← ace_obj (ad := ad) (cy := cy) (S := S') hx ha]
    exact aws_set hn h1 hj
  have hlen : k < ((aft a).zipIdx.map (afv ad S x)).length := by rw [aft_len]; exact (List.getElem?_eq_some_iff.mp ht).1
  have hD : va_D A (aws ad cy ids S) := aws_D hn hA hi
  rcases hl with hl | hl
  · obtain ⟨⟨C, T, N⟩, h3, h4, h5, h6⟩ := aPT_ok _ hl
    obtain ⟨h7, ty0, h8, h9, h10, h11⟩ := aCk_ok a _ h3
    have hty := h11 k h4
    rw [List.getD_eq_getElem?_getD, ht] at hty
    obtain ⟨f1, f2⟩ := hfit _ hty
    exact va_put (D := D) hexec hb hts h7 ty0 h8 h9 hown hK hP hD hS q0 h2 h3 k h4 (hts _ h6) (fun _ h => h) h5 (h8 k h4) f1 f2 hlen hd (fun H1 locs1 q1 _ q3 => kk H1 locs1 (hset ▸ q1) q3)
  · obtain ⟨⟨C, T, N⟩, h3, h4, h5, h6⟩ := aPN_ok _ hl
    obtain ⟨h7, ty0, h8, h9, h10, h11⟩ := aCk_ok a _ h3
    have hty := h11 k h4
    rw [List.getD_eq_getElem?_getD, ht] at hty
    obtain ⟨f1, f2⟩ := hfit _ hty
    exact va_putN (D := D) hexec hb hts h7 ty0 h8 h9 hown hK hP hD hS q0 h2 h3 k h4 (va_Nw.use rfl (hnw _ h6)) (fun _ h => h) h5 (h8 k h4) f1 f2 hlen hd (fun H1 locs1 q1 _ q3 => kk H1 locs1 (hset ▸ q1) q3)
end
end
section
/-! rows of arrays, and all instructions that go on to the next one -/
section
variable {p : Program} {l : Launch} {e : Env} {R : Room} {s : State} {m : MethodId} {args : Array Value} {below : List Frame} {meth : Method} {c : Code} {cc : ByteArray} {nL on : Nat} {ad : Nat → Nat} {cy : Nat → ClassId} {D : va_G} {ids : List Nat} {A : Nat → Prop} {rk : Nat → Bool} {Zc : State → Prop} {Qs : State → Prop} {pc : Nat} {B : Array Slot} {H : Heap} {locs : List Loc} {rest : List Value} {S : aS}
theorem r_iald (X : aCx p s m args c cc nL on ad cy D ids A rk Zc) {a x : Nat} {i : Int32} (hd : decode cc pc = .ok (.iaload, 1)) (h20 : Nat.blt a 20 = false) (hm : a % 10 = 0) (hr : rk a = true) (hx : akd x = a) (hin : vp_in i (aln x)) (hP : va_P D vwCl (aws ad cy ids S) H)
    (kk : W p l e R s m args below meth c H locs 0 0 Qs (F0 m (pc + 1) B (.int (ga S x i.toNatClampNeg) :: rest))) : W p l e R s m args below meth c H locs 0 0 Qs (F0 m pc B (.int i :: .ref (ad x) :: rest)) := by
  obtain ⟨hexec, hb, hml, hown, hts, hnw, hK, hn, hA, hi, hreg, hZ⟩ := X
  obtain ⟨q0, h1, h2⟩ := aws_at (ad := ad) (cy := cy) (S := S) (hreg x a hx hr)
  rw [ace_arr hx h20, arw_I hx (Or.inl hm), hm] at h2
  exact va_iald hexec hb hK hP q0 0 h2 rfl hin hd kk
theorem r_lald (X : aCx p s m args c cc nL on ad cy D ids A rk Zc) {a x : Nat} {i : Int32} (hd : decode cc pc = .ok (.laload, 1)) (h20 : Nat.blt a 20 = false) (hm : a % 10 = 1) (hr : rk a = true) (hx : akd x = a) (hin : vp_in i (aln x)) (hP : va_P D vwCl (aws ad cy ids S) H)
    (kk : W p l e R s m args below meth c H locs 0 0 Qs (F0 m (pc + 1) B (.long (gb S x i.toNatClampNeg) :: rest))) : W p l e R s m args below meth c H locs 0 0 Qs (F0 m pc B (.int i :: .ref (ad x) :: rest)) := by
  obtain ⟨hexec, hb, hml, hown, hts, hnw, hK, hn, hA, hi, hreg, hZ⟩ := X
  obtain ⟨q0, h1, h2⟩ := aws_at (ad := ad) (cy := cy) (S := S) (hreg x a hx hr)
  rw [ace_arr hx h20, arw_L hx hm, hm] at h2
  exact va_lald hexec hb hK hP q0 1 h2 rfl hin hd kk
theorem r_bald (X : aCx p s m args c cc nL on ad cy D ids A rk Zc) {a x : Nat} {i : Int32} (hd : decode cc pc = .ok (.baload, 1)) (h20 : Nat.blt a 20 = false) (hm : a % 10 = 2) (hr : rk a = true) (hx : akd x = a) (hin : vp_in i (aln x)) (hP : va_P D vwCl (aws ad cy ids S) H)
    (kk : W p l e R s m args below meth c H locs 0 0 Qs (F0 m (pc + 1) B (.int (ga S x i.toNatClampNeg) :: rest))) : W p l e R s m args below meth c H locs 0 0 Qs (F0 m pc B (.int i :: .ref (ad x) :: rest)) := by
  obtain ⟨hexec, hb, hml, hown, hts, hnw, hK, hn, hA, hi, hreg, hZ⟩ := X
  obtain ⟨q0, h1, h2⟩ := aws_at (ad := ad) (cy := cy) (S := S) (hreg x a hx hr)
  rw [ace_arr hx h20, arw_I hx (Or.inr (Or.inl hm)), hm] at h2
  exact va_bald hexec hb hK hP q0 2 h2 rfl hin hd kk
theorem r_zald (X : aCx p s m args c cc nL on ad cy D ids A rk Zc) {a x : Nat} {i : Int32} (hd : decode cc pc = .ok (.baload, 1)) (h20 : Nat.blt a 20 = false) (hm : a % 10 = 3) (hr : rk a = true) (hx : akd x = a) (hin : vp_in i (aln x)) (hP : va_P D vwCl (aws ad cy ids S) H)
    (kk : W p l e R s m args below meth c H locs 0 0 Qs (F0 m (pc + 1) B (.int (ga S x i.toNatClampNeg) :: rest))) : W p l e R s m args below meth c H locs 0 0 Qs (F0 m pc B (.int i :: .ref (ad x) :: rest)) := by
  obtain ⟨hexec, hb, hml, hown, hts, hnw, hK, hn, hA, hi, hreg, hZ⟩ := X
  obtain ⟨q0, h1, h2⟩ := aws_at (ad := ad) (cy := cy) (S := S) (hreg x a hx hr)
  rw [ace_arr hx h20, arw_I hx (Or.inr (Or.inr hm)), hm] at h2
  exact va_zald hexec hb hK hP q0 3 h2 rfl hin hd kk
theorem r_pald (X : aCx p s m args c cc nL on ad cy D ids A rk Zc) {a x : Nat} {i : Int32} (hd : decode cc pc = .ok (.aaload, 1)) (h20 : Nat.blt a 20 = false) (hm : a % 10 = 4) (hr : rk a = true) (hx : akd x = a) (hin : vp_in i (aln x)) (hP : va_P D vwCl (aws ad cy ids S) H)
    (kk : W p l e R s m args below meth c H locs 0 0 Qs (F0 m (pc + 1) B (.ref (ad (ara x i.toNatClampNeg)) :: rest))) : W p l e R s m args below meth c H locs 0 0 Qs (F0 m pc B (.int i :: .ref (ad x) :: rest)) := by
  obtain ⟨hexec, hb, hml, hown, hts, hnw, hK, hn, hA, hi, hreg, hZ⟩ := X
  obtain ⟨q0, h1, h2⟩ := aws_at (ad := ad) (cy := cy) (S := S) (hreg x a hx hr)
  rw [ace_arr hx h20, arw_R hx (Or.inl hm), hm] at h2
  exact va_aldq hexec hb hK hP q0 4 h2 rfl hin hd kk
theorem r_sald (X : aCx p s m args c cc nL on ad cy D ids A rk Zc) {a x : Nat} {i : Int32} (hd : decode cc pc = .ok (.aaload, 1)) (h20 : Nat.blt a 20 = false) (hm : a % 10 = 5) (hr : rk a = true) (hx : akd x = a) (hin : vp_in i (aln x)) (hP : va_P D vwCl (aws ad cy ids S) H)
    (kk : W p l e R s m args below meth c H locs 0 0 Qs (F0 m (pc + 1) B (.ref (ad (ara x i.toNatClampNeg)) :: rest))) : W p l e R s m args below meth c H locs 0 0 Qs (F0 m pc B (.int i :: .ref (ad x) :: rest)) := by
  obtain ⟨hexec, hb, hml, hown, hts, hnw, hK, hn, hA, hi, hreg, hZ⟩ := X
  obtain ⟨q0, h1, h2⟩ := aws_at (ad := ad) (cy := cy) (S := S) (hreg x a hx hr)
  rw [ace_arr hx h20, arw_R hx (Or.inr hm), hm] at h2
  exact va_aldq hexec hb hK hP q0 5 h2 rfl hin hd kk
theorem r_iast (X : aCx p s m args c cc nL on ad cy D ids A rk Zc) {a x : Nat} {i : Int32} {v : Int32} (hd : decode cc pc = .ok (.iastore, 1)) (h20 : Nat.blt a 20 = false) (hm : a % 10 = 0) (hr : rk a = true) (hx : akd x = a) (hin : vp_in i (aln x)) (hP : va_P D vwCl (aws ad cy ids S) H) (hS : va_S A s.heap H locs)
    (kk : ∀ (H1 : Heap) (locs1 : List Loc), va_P D vwCl (aws ad cy ids (sa S x i.toNatClampNeg v)) H1 → va_S A s.heap H1 locs1 → W p l e R s m args below meth c H1 locs1 0 0 Qs (F0 m (pc + 1) B rest)) : W p l e R s m args below meth c H locs 0 0 Qs (F0 m pc B (.int v :: .int i :: .ref (ad x) :: rest)) := by
  obtain ⟨hexec, hb, hml, hown, hts, hnw, hK, hn, hA, hi, hreg, hZ⟩ := X
  obtain ⟨q0, h1, h2⟩ := aws_at (ad := ad) (cy := cy) (S := S) (hreg x a hx hr)
  rw [ace_arr hx h20, arw_I hx (Or.inl hm), hm] at h2
  have hset := aws_set (ad := ad) (cy := cy) (S := S) (S' := sa S x i.toNatClampNeg v) hn h1 (fun j hj => ace_sa j hj)
  rw [ace_arr hx h20, arw_I hx (Or.inl hm), hm] at hset
  have hu : (sa S x i.toNatClampNeg v).2.2.2.1 x = upd (S.2.2.2.1 x) i.toNatClampNeg v := by simp only [sa, va_up, if_pos]
  rw [hu] at hset
  exact va_iast hexec hb hK hP (aws_D hn hA hi) hS q0 0 h2 rfl hin hd (fun H1 locs1 q1 _ q3 => kk H1 locs1 (hset ▸ q1) q3)
theorem r_bast (X : aCx p s m args c cc nL on ad cy D ids A rk Zc) {a x : Nat} {i : Int32} {v : Int32} (hd : decode cc pc = .ok (.bastore, 1)) (h20 : Nat.blt a 20 = false) (hm : a % 10 = 2) (hr : rk a = true) (hx : akd x = a) (hin : vp_in i (aln x)) (hP : va_P D vwCl (aws ad cy ids S) H) (hS : va_S A s.heap H locs)
    (kk : ∀ (H1 : Heap) (locs1 : List Loc), va_P D vwCl (aws ad cy ids (sa S x i.toNatClampNeg (vp_nar .byte v))) H1 → va_S A s.heap H1 locs1 → W p l e R s m args below meth c H1 locs1 0 0 Qs (F0 m (pc + 1) B rest)) : W p l e R s m args below meth c H locs 0 0 Qs (F0 m pc B (.int v :: .int i :: .ref (ad x) :: rest)) := by
  obtain ⟨hexec, hb, hml, hown, hts, hnw, hK, hn, hA, hi, hreg, hZ⟩ := X
  obtain ⟨q0, h1, h2⟩ := aws_at (ad := ad) (cy := cy) (S := S) (hreg x a hx hr)
  rw [ace_arr hx h20, arw_I hx (Or.inr (Or.inl hm)), hm] at h2
  have hset := aws_set (ad := ad) (cy := cy) (S := S) (S' := sa S x i.toNatClampNeg (vp_nar .byte v)) hn h1 (fun j hj => ace_sa j hj)
  rw [ace_arr hx h20, arw_I hx (Or.inr (Or.inl hm)), hm] at hset
  have hu : (sa S x i.toNatClampNeg (vp_nar .byte v)).2.2.2.1 x = upd (S.2.2.2.1 x) i.toNatClampNeg (vp_nar .byte v) := by simp only [sa, va_up, if_pos]
  rw [hu] at hset
  exact va_bast hexec hb hK hP (aws_D hn hA hi) hS q0 2 h2 rfl hin hd (fun H1 locs1 q1 _ q3 => kk H1 locs1 (hset ▸ q1) q3)
theorem r_zast (X : aCx p s m args c cc nL on ad cy D ids A rk Zc) {a x : Nat} {i : Int32} {v : Int32} (hd : decode cc pc = .ok (.bastore, 1)) (h20 : Nat.blt a 20 = false) (hm : a % 10 = 3) (hr : rk a = true) (hx : akd x = a) (hin : vp_in i (aln x)) (hP : va_P D vwCl (aws ad cy ids S) H) (hS : va_S A s.heap H locs)
    (kk : ∀ (H1 : Heap) (locs1 : List Loc), va_P D vwCl (aws ad cy ids (sa S x i.toNatClampNeg (vp_nar .boolean v))) H1 → va_S A s.heap H1 locs1 → W p l e R s m args below meth c H1 locs1 0 0 Qs (F0 m (pc + 1) B rest)) : W p l e R s m args below meth c H locs 0 0 Qs (F0 m pc B (.int v :: .int i :: .ref (ad x) :: rest)) := by
  obtain ⟨hexec, hb, hml, hown, hts, hnw, hK, hn, hA, hi, hreg, hZ⟩ := X
  obtain ⟨q0, h1, h2⟩ := aws_at (ad := ad) (cy := cy) (S := S) (hreg x a hx hr)
  rw [ace_arr hx h20, arw_I hx (Or.inr (Or.inr hm)), hm] at h2
  have hset := aws_set (ad := ad) (cy := cy) (S := S) (S' := sa S x i.toNatClampNeg (vp_nar .boolean v)) hn h1 (fun j hj => ace_sa j hj)
  rw [ace_arr hx h20, arw_I hx (Or.inr (Or.inr hm)), hm] at hset
  have hu : (sa S x i.toNatClampNeg (vp_nar .boolean v)).2.2.2.1 x = upd (S.2.2.2.1 x) i.toNatClampNeg (vp_nar .boolean v) := by simp only [sa, va_up, if_pos]
  rw [hu] at hset
  exact va_zast hexec hb hK hP (aws_D hn hA hi) hS q0 3 h2 rfl hin hd (fun H1 locs1 q1 _ q3 => kk H1 locs1 (hset ▸ q1) q3)
theorem r_last (X : aCx p s m args c cc nL on ad cy D ids A rk Zc) {a x : Nat} {i : Int32} {v : Int64} (hd : decode cc pc = .ok (.lastore, 1)) (h20 : Nat.blt a 20 = false) (hm : a % 10 = 1) (hr : rk a = true) (hx : akd x = a) (hin : vp_in i (aln x)) (hP : va_P D vwCl (aws ad cy ids S) H) (hS : va_S A s.heap H locs)
    (kk : ∀ (H1 : Heap) (locs1 : List Loc), va_P D vwCl (aws ad cy ids (sb S x i.toNatClampNeg v)) H1 → va_S A s.heap H1 locs1 → W p l e R s m args below meth c H1 locs1 0 0 Qs (F0 m (pc + 1) B rest)) : W p l e R s m args below meth c H locs 0 0 Qs (F0 m pc B (.long v :: .int i :: .ref (ad x) :: rest)) := by
  obtain ⟨hexec, hb, hml, hown, hts, hnw, hK, hn, hA, hi, hreg, hZ⟩ := X
  obtain ⟨q0, h1, h2⟩ := aws_at (ad := ad) (cy := cy) (S := S) (hreg x a hx hr)
  rw [ace_arr hx h20, arw_L hx hm, hm] at h2
  have hset := aws_set (ad := ad) (cy := cy) (S := S) (S' := sb S x i.toNatClampNeg v) hn h1 (fun j hj => ace_sb j hj)
  rw [ace_arr hx h20, arw_L hx hm, hm] at hset
  have hu : (sb S x i.toNatClampNeg v).2.2.2.2 x = vp_updL (S.2.2.2.2 x) i.toNatClampNeg v := by simp only [sb, va_up, if_pos]
  rw [hu] at hset
  exact va_last hexec hb hK hP (aws_D hn hA hi) hS q0 1 h2 rfl hin hd (fun H1 locs1 q1 _ q3 => kk H1 locs1 (hset ▸ q1) q3)
theorem atys_at (cy : Nat → ClassId) {a : Nat} (h : a < 6) : ∃ ty, (atys cy)[a]? = some (cy a, ty) := by
  match a, h with
  | 0, _ => exact ⟨_, rfl⟩
  | 1, _ => exact ⟨_, rfl⟩
  | 2, _ => exact ⟨_, rfl⟩
  | 3, _ => exact ⟨_, rfl⟩
  | 4, _ => exact ⟨_, rfl⟩
  | 5, _ => exact ⟨_, rfl⟩
theorem r_alen (X : aCx p s m args c cc nL on ad cy D ids A rk Zc) {a x : Nat} (hd : decode cc pc = .ok (.arraylength, 1)) (h20 : Nat.blt a 20 = false) (hm : a % 10 < 6) (hr : rk a = true) (hx : akd x = a) (hP : va_P D vwCl (aws ad cy ids S) H)
    (kk : W p l e R s m args below meth c H locs 0 0 Qs (F0 m (pc + 1) B (.int (Int32.ofNat (aln x)) :: rest))) : W p l e R s m args below meth c H locs 0 0 Qs (F0 m pc B (.ref (ad x) :: rest)) := by
  obtain ⟨hexec, hb, hml, hown, hts, hnw, hK, hn, hA, hi, hreg, hZ⟩ := X
  obtain ⟨q0, h1, h2⟩ := aws_at (ad := ad) (cy := cy) (S := S) (hreg x a hx hr)
  rw [ace_arr hx h20] at h2
  obtain ⟨ty, ht⟩ := atys_at cy hm
  exact va_alen hexec hb hK hP q0 (a % 10) h2 ht rfl hd kk
end
def alen1 (i : ClassFile.Instr) : Nat := match i with
  | .bipush _ => 2
  | .ldc _ => 2
  | .iload _ => 2
  | .lload _ => 2
  | .aload _ => 2
  | .istore _ => 2
  | .lstore _ => 2
  | .astore _ => 2
  | .sipush _ => 3
  | .ldc_w _ => 3
  | .ldc2_w _ => 3
  | .iinc _ _ => 3
  | .getfield _ => 3
  | .putfield _ => 3
  | .getstatic _ => 3
  | .invokevirtual _ => 3
  | .invokespecial _ => 3
  | .invokestatic _ => 3
  | .ifCond _ _ => 3
  | .if_icmp _ _ => 3
  | .if_acmp _ _ => 3
  | .goto _ => 3
  | _ => 1
/-- what a program checks of an instruction: its numbers are those of the code -/
def ackX (on : Nat) (rk : Nat → Bool) (e : aE) : Bool := match e.2.1 with
  | .iconst n => decide (Int32.ofInt n = e.2.2.2.2.2.2.1)
  | .bipush n => decide ((Int8.ofInt n).toInt32 = e.2.2.2.2.2.2.1)
  | .sipush n => decide ((Int16.ofInt n).toInt32 = e.2.2.2.2.2.2.1)
  | .ldc i => decide ((on, i, e.2.2.2.2.2.2.1) ∈ aCT)
  | .ldc_w i => decide ((on, i, e.2.2.2.2.2.2.1) ∈ aCT)
  | .lconst n => decide (Int64.ofNat (n : Nat) = e.2.2.2.2.2.2.2)
  | .ldc2_w i => decide ((on, i, e.2.2.2.2.2.2.2) ∈ aC2)
  | .iinc _ n => decide (Int32.ofInt n = e.2.2.2.2.2.2.1)
  | .getfield i => decide ((on, i, e.2.2.2.2.1, e.2.2.2.2.2.1) ∈ aLT ∨ (on, i, e.2.2.2.2.1, e.2.2.2.2.2.1) ∈ aLN) && rk e.2.2.2.2.1
  | .putfield i => decide ((on, i, e.2.2.2.2.1, e.2.2.2.2.2.1) ∈ aPT ∨ (on, i, e.2.2.2.2.1, e.2.2.2.2.2.1) ∈ aPN) && rk e.2.2.2.2.1
  | .iaload => decide (Nat.blt e.2.2.2.2.1 20 = false ∧ e.2.2.2.2.1 % 10 = 0) && rk e.2.2.2.2.1
  | .iastore => decide (Nat.blt e.2.2.2.2.1 20 = false ∧ e.2.2.2.2.1 % 10 = 0) && rk e.2.2.2.2.1
  | .laload => decide (Nat.blt e.2.2.2.2.1 20 = false ∧ e.2.2.2.2.1 % 10 = 1) && rk e.2.2.2.2.1
  | .lastore => decide (Nat.blt e.2.2.2.2.1 20 = false ∧ e.2.2.2.2.1 % 10 = 1) && rk e.2.2.2.2.1
  | .baload => decide (e.2.2.2.2.1 = 22 ∨ Nat.blt e.2.2.2.2.1 20 = false ∧ e.2.2.2.2.1 % 10 = 3) && rk e.2.2.2.2.1
  | .bastore => decide (e.2.2.2.2.1 = 22 ∨ Nat.blt e.2.2.2.2.1 20 = false ∧ e.2.2.2.2.1 % 10 = 3) && rk e.2.2.2.2.1
  | .aaload => decide (Nat.blt e.2.2.2.2.1 20 = false ∧ (e.2.2.2.2.1 % 10 = 4 ∨ e.2.2.2.2.1 % 10 = 5)) && rk e.2.2.2.2.1
  | .arraylength => decide (Nat.blt e.2.2.2.2.1 20 = false ∧ e.2.2.2.2.1 % 10 < 6) && rk e.2.2.2.2.1
  | _ => true
theorem acat1 {v : Value} (h : acat2 v = false) : v.category = 1 := by
  cases v <;> first | rfl | cases h
section
variable {p : Program} {l : Launch} {e : Env} {R : Room} {s : State} {m : MethodId} {args : Array Value} {below : List Frame} {meth : Method} {c : Code} {cc : ByteArray} {nL on : Nat} {ad : Nat → Nat} {cy : Nat → ClassId} {D : va_G} {ids : List Nat} {A : Nat → Prop} {rk : Nat → Bool} {Zc : State → Prop} {Qs : State → Prop}
set_option maxHeartbeats 4000000 in
theorem apw_ok (X : aCx p s m args c cc nL on ad cy D ids A rk Zc) {n : aE} {go : Nat → aLs → List Value → aS → Prop} {ls : aLs} {st : List Value} {S : aS} (hd : decode cc n.1 = .ok (n.2.1, n.2.2.1)) (hlen : n.2.2.1 = alen1 n.2.1) (hk : ackX on rk n = true) (h : aTP (apu n ls st S) (go 0))
    (hgo : ∀ ls' st' S', go 0 ls' st' S' → aWg p l e R s m args below meth c nL ad cy D ids A Qs (n.1 + n.2.2.1) ls' st' S') : aWg p l e R s m args below meth c nL ad cy D ids A Qs n.1 ls st S := by
  have hx := X.1
  have hb := X.2.1
  have hown := X.2.2.2.1
  have hts := X.2.2.2.2.1
  obtain ⟨pc, i, len, cut, a, b, v, w⟩ := n
  dsimp only at hd hlen hgo hk ⊢
  intro B H locs hl hP hS
  cases i with
  | iconst n =>
    obtain rfl : len = 1 := hlen
    exact lv_iconst hx hb hd (of_decide_eq_true hk) (hgo _ _ _ h B H locs hl hP hS)
  | bipush n =>
    obtain rfl : len = 2 := hlen
    exact lv_bipush hx hb hd (of_decide_eq_true hk) (hgo _ _ _ h B H locs hl hP hS)
  | sipush n =>
    obtain rfl : len = 3 := hlen
    exact lv_sipush hx hb hd (of_decide_eq_true hk) (hgo _ _ _ h B H locs hl hP hS)
  | ldc n =>
    obtain rfl : len = 2 := hlen
    exact lv_ldc hx hb hown (hts _ (aCT_ok _ (of_decide_eq_true hk))) hd (hgo _ _ _ h B H locs hl hP hS)
  | ldc_w n =>
    obtain rfl : len = 3 := hlen
    exact lv_ldcw hx hb hown (hts _ (aCT_ok _ (of_decide_eq_true hk))) hd (hgo _ _ _ h B H locs hl hP hS)
  | lconst n =>
    obtain rfl : len = 1 := hlen
    exact lv_lconst hx hb hd (of_decide_eq_true hk) (hgo _ _ _ h B H locs hl hP hS)
  | ldc2_w n =>
    obtain rfl : len = 3 := hlen
    exact lv_ldc2 hx hb hown (hts _ (aC2_ok _ (of_decide_eq_true hk))) hd (hgo _ _ _ h B H locs hl hP hS)
  | iload_n n =>
    obtain rfl : len = 1 := hlen
    obtain ⟨x, h1, h⟩ := aldI_inv h
    exact lv_iload_n hx hb hd rfl (hl.at h1) (hgo _ _ _ h B H locs hl hP hS)
  | iload n =>
    obtain rfl : len = 2 := hlen
    obtain ⟨x, h1, h⟩ := aldI_inv h
    exact lv_iload hx hb hd (hl.at h1) (hgo _ _ _ h B H locs hl hP hS)
  | lload_n n =>
    obtain rfl : len = 1 := hlen
    obtain ⟨x, h1, h⟩ := aldL_inv h
    exact lv_lload_n hx hb hd rfl (hl.at h1) (hgo _ _ _ h B H locs hl hP hS)
  | lload n =>
    obtain rfl : len = 2 := hlen
    obtain ⟨x, h1, h⟩ := aldL_inv h
    exact lv_lload hx hb hd (hl.at h1) (hgo _ _ _ h B H locs hl hP hS)
  | aload_n n =>
    obtain rfl : len = 1 := hlen
    obtain ⟨x, h1, h⟩ := aldR_inv h
    exact lv_aload_n hx hb hd rfl (hl.at h1) (hgo _ _ _ h B H locs hl hP hS)
  | aload n =>
    obtain rfl : len = 2 := hlen
    obtain ⟨x, h1, h⟩ := aldR_inv h
    exact lv_aload hx hb hd (hl.at h1) (hgo _ _ _ h B H locs hl hP hS)
  | istore_n n =>
    obtain rfl : len = 1 := hlen
    obtain ⟨x, r, rfl, h⟩ := pI_inv h
    obtain ⟨h1, h⟩ := aput_inv h
    exact lv_istore_n hx hb hd rfl hl.2 (by rw [← hl.1]; exact h1) rfl (fun B1 q => hgo _ _ _ h B1 H locs (hl.st1 q) hP hS)
  | istore n =>
    obtain rfl : len = 2 := hlen
    obtain ⟨x, r, rfl, h⟩ := pI_inv h
    obtain ⟨h1, h⟩ := aput_inv h
    exact lv_istore hx hb hd hl.2 (by rw [← hl.1]; exact h1) rfl (fun B1 q => hgo _ _ _ h B1 H locs (hl.st1 q) hP hS)
  | astore_n n =>
    obtain rfl : len = 1 := hlen
    obtain ⟨x, r, rfl, h⟩ := pR_inv h
    obtain ⟨h1, h⟩ := aput_inv h
    exact lv_astore_n hx hb hd rfl hl.2 (by rw [← hl.1]; exact h1) rfl (fun B1 q => hgo _ _ _ h B1 H locs (hl.st1 q) hP hS)
  | astore n =>
    obtain rfl : len = 2 := hlen
    obtain ⟨x, r, rfl, h⟩ := pR_inv h
    obtain ⟨h1, h⟩ := aput_inv h
    exact lv_astore hx hb hd hl.2 (by rw [← hl.1]; exact h1) rfl (fun B1 q => hgo _ _ _ h B1 H locs (hl.st1 q) hP hS)
  | lstore_n n =>
    obtain rfl : len = 1 := hlen
    obtain ⟨x, r, rfl, h⟩ := pL_inv h
    obtain ⟨h1, h⟩ := aput_inv h
    exact lv_lstore_n hx hb hd rfl hl.2 (by rw [← hl.1]; exact h1) rfl (fun B1 q => hgo _ _ _ h B1 H locs (hl.st2 q) hP hS)
  | lstore n =>
    obtain rfl : len = 2 := hlen
    obtain ⟨x, r, rfl, h⟩ := pL_inv h
    obtain ⟨h1, h⟩ := aput_inv h
    exact lv_lstore hx hb hd hl.2 (by rw [← hl.1]; exact h1) rfl (fun B1 q => hgo _ _ _ h B1 H locs (hl.st2 q) hP hS)
  | iinc n k =>
    obtain rfl : len = 3 := hlen
    obtain ⟨x, h1, h⟩ := aldI_inv h
    obtain ⟨h2, h⟩ := aput_inv h
    obtain ⟨k0, hk0⟩ := List.getElem?_of_mem ((apr_mem (ad := ad) ls 0 (n, .int x)).mpr ⟨n, .int x, h1, by rw [Nat.zero_add]; rfl⟩)
    exact lv_iinc hx hb hd hl.2 hk0 (by rw [of_decide_eq_true hk]) (by rw [← hl.1]; exact h2) rfl (fun B1 q => hgo _ _ _ h B1 H locs (hl.st1 q) hP hS)
  | iadd =>
    obtain rfl : len = 1 := hlen
    obtain ⟨x, y, r, rfl, h⟩ := pII_inv h
    exact lv_iadd hx hb hd (hgo _ _ _ h B H locs hl hP hS)
  | isub =>
    obtain rfl : len = 1 := hlen
    obtain ⟨x, y, r, rfl, h⟩ := pII_inv h
    exact lv_isub hx hb hd (hgo _ _ _ h B H locs hl hP hS)
  | imul =>
    obtain rfl : len = 1 := hlen
    obtain ⟨x, y, r, rfl, h⟩ := pII_inv h
    exact lv_imul hx hb hd (hgo _ _ _ h B H locs hl hP hS)
  | iand =>
    obtain rfl : len = 1 := hlen
    obtain ⟨x, y, r, rfl, h⟩ := pII_inv h
    exact lv_iand hx hb hd (hgo _ _ _ h B H locs hl hP hS)
  | ior =>
    obtain rfl : len = 1 := hlen
    obtain ⟨x, y, r, rfl, h⟩ := pII_inv h
    exact lv_ior hx hb hd (hgo _ _ _ h B H locs hl hP hS)
  | ixor =>
    obtain rfl : len = 1 := hlen
    obtain ⟨x, y, r, rfl, h⟩ := pII_inv h
    exact lv_ixor hx hb hd (hgo _ _ _ h B H locs hl hP hS)
  | ishl =>
    obtain rfl : len = 1 := hlen
    obtain ⟨x, y, r, rfl, h⟩ := pII_inv h
    exact lv_ishl hx hb hd (hgo _ _ _ h B H locs hl hP hS)
  | ishr =>
    obtain rfl : len = 1 := hlen
    obtain ⟨x, y, r, rfl, h⟩ := pII_inv h
    exact lv_ishr hx hb hd (hgo _ _ _ h B H locs hl hP hS)
  | idiv =>
    obtain rfl : len = 1 := hlen
    obtain ⟨x, y, r, rfl, h⟩ := pII_inv h
    exact lv_idiv hx hb hd h.1 (hgo _ _ _ h.2 B H locs hl hP hS)
  | irem =>
    obtain rfl : len = 1 := hlen
    obtain ⟨x, y, r, rfl, h⟩ := pII_inv h
    exact lv_irem hx hb hd h.1 (hgo _ _ _ h.2 B H locs hl hP hS)
  | iushr =>
    obtain rfl : len = 1 := hlen
    obtain ⟨x, y, r, rfl, h⟩ := pII_inv h
    exact lv_iushr hx hb hd rfl (hgo _ _ _ h B H locs hl hP hS)
  | ladd =>
    obtain rfl : len = 1 := hlen
    obtain ⟨x, y, r, rfl, h⟩ := pLL_inv h
    exact lv_ladd hx hb hd (hgo _ _ _ h B H locs hl hP hS)
  | lsub =>
    obtain rfl : len = 1 := hlen
    obtain ⟨x, y, r, rfl, h⟩ := pLL_inv h
    exact lv_lsub hx hb hd (hgo _ _ _ h B H locs hl hP hS)
  | lmul =>
    obtain rfl : len = 1 := hlen
    obtain ⟨x, y, r, rfl, h⟩ := pLL_inv h
    exact lv_lmul hx hb hd (hgo _ _ _ h B H locs hl hP hS)
  | land =>
    obtain rfl : len = 1 := hlen
    obtain ⟨x, y, r, rfl, h⟩ := pLL_inv h
    exact lv_land hx hb hd (hgo _ _ _ h B H locs hl hP hS)
  | lor =>
    obtain rfl : len = 1 := hlen
    obtain ⟨x, y, r, rfl, h⟩ := pLL_inv h
    exact lv_lor hx hb hd (hgo _ _ _ h B H locs hl hP hS)
  | ldiv =>
    obtain rfl : len = 1 := hlen
    obtain ⟨x, y, r, rfl, h⟩ := pLL_inv h
    exact lv_ldiv hx hb hd h.1 (hgo _ _ _ h.2 B H locs hl hP hS)
  | lrem =>
    obtain rfl : len = 1 := hlen
    obtain ⟨x, y, r, rfl, h⟩ := pLL_inv h
    exact lv_lrem hx hb hd h.1 (hgo _ _ _ h.2 B H locs hl hP hS)
  | lcmp =>
    obtain rfl : len = 1 := hlen
    obtain ⟨x, y, r, rfl, h⟩ := pLL_inv h
    exact W.lcmp hx hb hd (hgo _ _ _ h B H locs hl hP hS)
  | lshl =>
    obtain rfl : len = 1 := hlen
    obtain ⟨x, y, r, rfl, h⟩ := pLI_inv h
    exact lv_lshl hx hb hd rfl (hgo _ _ _ h B H locs hl hP hS)
  | lushr =>
    obtain rfl : len = 1 := hlen
    obtain ⟨x, y, r, rfl, h⟩ := pLI_inv h
    exact lv_lushr hx hb hd rfl (hgo _ _ _ h B H locs hl hP hS)
  | i2l =>
    obtain rfl : len = 1 := hlen
    obtain ⟨x, r, rfl, h⟩ := pI_inv h
    exact lv_i2l hx hb hd rfl (hgo _ _ _ h B H locs hl hP hS)
  | l2i =>
    obtain rfl : len = 1 := hlen
    obtain ⟨x, r, rfl, h⟩ := pL_inv h
    exact lv_l2i hx hb hd rfl (hgo _ _ _ h B H locs hl hP hS)
  | i2b =>
    obtain rfl : len = 1 := hlen
    obtain ⟨x, r, rfl, h⟩ := pI_inv h
    exact lv_i2b hx hb hd rfl (hgo _ _ _ h B H locs hl hP hS)
  | i2c =>
    obtain rfl : len = 1 := hlen
    obtain ⟨x, r, rfl, h⟩ := pI_inv h
    exact lv_i2c hx hb hd rfl (hgo _ _ _ h B H locs hl hP hS)
  | dup =>
    obtain rfl : len = 1 := hlen
    cases st with
    | nil => exact h.elim
    | cons x r =>
      cases hc : acat2 x with
      | true => simp only [apu, hc] at h; exact h.elim
      | false =>
        simp only [apu, hc] at h
        exact lv_dup hx hb hd ((atv_cat ad x).trans (acat1 hc)) (hgo _ _ _ h B H locs hl hP hS)
  | pop =>
    obtain rfl : len = 1 := hlen
    cases st with
    | nil => exact h.elim
    | cons x r =>
      cases hc : acat2 x with
      | true => simp only [apu, hc] at h; exact h.elim
      | false =>
        simp only [apu, hc] at h
        exact lv_pop hx hb hd ((atv_cat ad x).trans (acat1 hc)) (hgo _ _ _ h B H locs hl hP hS)
  | dup2 =>
    obtain rfl : len = 1 := hlen
    cases st with
    | nil => exact h.elim
    | cons x r =>
      cases r with
      | nil => exact h.elim
      | cons y r =>
        cases hc : acat2 x with
        | true =>
          simp only [apu, hc] at h
          exact lv_dup2_2 hx hb hd (by rw [atv_cat]; rw [acat2_cat] at hc; exact eq_of_beq hc) (hgo _ _ _ h B H locs hl hP hS)
        | false =>
          cases hc2 : acat2 y with
          | true => simp only [apu, hc, hc2] at h; exact h.elim
          | false =>
            simp only [apu, hc, hc2] at h
            exact lv_dup2_11 hx hb hd ((atv_cat ad x).trans (acat1 hc)) ((atv_cat ad y).trans (acat1 hc2)) (hgo _ _ _ h B H locs hl hP hS)
  | getfield n =>
    obtain rfl : len = 3 := hlen
    obtain ⟨x, r, rfl, h⟩ := pR_inv h
    obtain ⟨k1, k2⟩ := (Bool.and_eq_true _ _).mp hk
    have k1 : (on, n, a, b) ∈ aLT ∨ (on, n, a, b) ∈ aLN := of_decide_eq_true k1
    have h : aTP (afg S x a b fun v => some (gK x a, none, ls, v :: r, S)) (go 0) := h
    unfold afg at h
    split at h
    · rename_i ht
      obtain ⟨h1, h⟩ := aGK h
      exact r_get X hd k1 k2 ht h1 hP (hgo _ _ _ h B H locs hl hP hS)
    · rename_i ht
      obtain ⟨h1, h⟩ := aGK h
      exact r_get X hd k1 k2 ht h1 hP (hgo _ _ _ h B H locs hl hP hS)
    · rename_i ht
      obtain ⟨h1, h⟩ := aGK h
      exact r_get X hd k1 k2 ht h1 hP (hgo _ _ _ h B H locs hl hP hS)
    · rename_i ht
      obtain ⟨h1, h⟩ := aGK h
      exact r_get X hd k1 k2 ht h1 hP (hgo _ _ _ h B H locs hl hP hS)
    · rename_i ht
      obtain ⟨h1, h⟩ := aGK h
      exact r_get X hd k1 k2 ht h1 hP (hgo _ _ _ h B H locs hl hP hS)
    · exact h.elim
  | putfield n =>
    obtain rfl : len = 3 := hlen
    obtain ⟨k1, k2⟩ := (Bool.and_eq_true _ _).mp hk
    have k1 := of_decide_eq_true k1
    have h : aTP (afp S a b ls st) (go 0) := h
    unfold afp at h
    split at h
    · rename_i ht
      obtain ⟨x, y, r, rfl, h⟩ := pRI_inv h
      obtain ⟨h1, h⟩ := aGK h
      refine r_put (S' := si S x b y) X hd k1 k2 ht h1 hP hS (fun ty q => by cases ty <;> first | exact ⟨rfl, rfl⟩ | cases q) (by simp [afv, gi, gl, gr, si, va_up, atv]) (fun t' k' hne => by simp [afv, gi, gl, gr, si, va_up, hne]) (fun j hj => ace_si j hj) (fun H1 locs1 q1 q2 => hgo _ _ _ h B H1 locs1 hl q1 q2)
    · rename_i ht
      obtain ⟨x, y, r, rfl, h⟩ := pRI_inv h
      obtain ⟨h1, h⟩ := aGK h
      refine r_put (S' := si S x b y) X hd k1 k2 ht h1 hP hS (fun ty q => by rcases h.1 with z | z <;> subst z <;> cases ty <;> first | exact ⟨rfl, rfl⟩ | cases q) (by simp [afv, gi, gl, gr, si, va_up, atv]) (fun t' k' hne => by simp [afv, gi, gl, gr, si, va_up, hne]) (fun j hj => ace_si j hj) (fun H1 locs1 q1 q2 => hgo _ _ _ h.2 B H1 locs1 hl q1 q2)
    · rename_i ht
      obtain ⟨x, y, r, rfl, h⟩ := pRL_inv h
      obtain ⟨h1, h⟩ := aGK h
      refine r_put (S' := sl S x b y) X hd k1 k2 ht h1 hP hS (fun ty q => by cases ty <;> first | exact ⟨rfl, rfl⟩ | cases q) (by simp [afv, gi, gl, gr, sl, va_up, atv]) (fun t' k' hne => by simp [afv, gi, gl, gr, sl, va_up, hne]) (fun j hj => ace_sl j hj) (fun H1 locs1 q1 q2 => hgo _ _ _ h B H1 locs1 hl q1 q2)
    · rename_i ht
      obtain ⟨x, y, r, rfl, h⟩ := pRR_inv h
      obtain ⟨h1, h⟩ := aGK h
      refine r_put (S' := sr S x b y) X hd k1 k2 ht h1 hP hS (fun ty q => by cases ty <;> first | exact ⟨rfl, rfl⟩ | cases q) (by simp [afv, gi, gl, gr, sr, va_up, atv]) (fun t' k' hne => by simp [afv, gi, gl, gr, sr, va_up, hne]) (fun j hj => ace_sr j hj) (fun H1 locs1 q1 q2 => hgo _ _ _ h B H1 locs1 hl q1 q2)
    · exact h.elim
  | iaload =>
    obtain rfl : len = 1 := hlen
    obtain ⟨x, y, r, rfl, h⟩ := pRI_inv h
    obtain ⟨k1, k2⟩ := (Bool.and_eq_true _ _).mp hk
    have k1 := of_decide_eq_true k1
    obtain ⟨h1, h2, h⟩ := aGK h
    exact r_iald X hd k1.1 k1.2 k2 h1 h2 hP (hgo _ _ _ h B H locs hl hP hS)
  | laload =>
    obtain rfl : len = 1 := hlen
    obtain ⟨x, y, r, rfl, h⟩ := pRI_inv h
    obtain ⟨k1, k2⟩ := (Bool.and_eq_true _ _).mp hk
    have k1 := of_decide_eq_true k1
    obtain ⟨h1, h2, h⟩ := aGK h
    exact r_lald X hd k1.1 k1.2 k2 h1 h2 hP (hgo _ _ _ h B H locs hl hP hS)
  | baload =>
    obtain rfl : len = 1 := hlen
    obtain ⟨x, y, r, rfl, h⟩ := pRI_inv h
    obtain ⟨k1, k2⟩ := (Bool.and_eq_true _ _).mp hk
    have k1 := of_decide_eq_true k1
    have k1 : a = 22 ∨ Nat.blt a 20 = false ∧ a % 10 = 3 := k1
    have k2 : rk a = true := k2
    have h : aTP (cond (Nat.beq a 22) (some (gK x a, some (vp_in y (aln x)), ls, .int (ga S x y.toNatClampNeg) :: r, S)) (some (gK x a, some (vp_in y (aln x)), ls, .int (ga S x y.toNatClampNeg) :: r, S))) (go 0) := h
    rcases k1 with k1 | k1
    · subst k1
      obtain ⟨h1, h2, h⟩ := aGK h
      exact r_bald X hd rfl rfl k2 h1 h2 hP (hgo _ _ _ h B H locs hl hP hS)
    · have hne : Nat.beq a 22 = false := by
        cases hb9 : Nat.beq a 22 with
        | false => rfl
        | true => have := Nat.eq_of_beq_eq_true hb9; omega
      simp only [hne, cond_false] at h
      obtain ⟨h1, h2, h⟩ := aGK h
      exact r_zald X hd k1.1 k1.2 k2 h1 h2 hP (hgo _ _ _ h B H locs hl hP hS)
  | aaload =>
    obtain rfl : len = 1 := hlen
    obtain ⟨x, y, r, rfl, h⟩ := pRI_inv h
    obtain ⟨k1, k2⟩ := (Bool.and_eq_true _ _).mp hk
    have k1 := of_decide_eq_true k1
    obtain ⟨h1, h2, h⟩ := aGK h
    rcases k1.2 with z | z
    · exact r_pald X hd k1.1 z k2 h1 h2 hP (hgo _ _ _ h B H locs hl hP hS)
    · exact r_sald X hd k1.1 z k2 h1 h2 hP (hgo _ _ _ h B H locs hl hP hS)
  | iastore =>
    obtain rfl : len = 1 := hlen
    obtain ⟨x, y, z, r, rfl, h⟩ := pRII_inv h
    obtain ⟨k1, k2⟩ := (Bool.and_eq_true _ _).mp hk
    have k1 := of_decide_eq_true k1
    obtain ⟨h1, h2, h⟩ := aGK h
    exact r_iast X hd k1.1 k1.2 k2 h1 h2 hP hS (fun H1 locs1 q1 q2 => hgo _ _ _ h B H1 locs1 hl q1 q2)
  | lastore =>
    obtain rfl : len = 1 := hlen
    obtain ⟨x, y, z, r, rfl, h⟩ := pRIL_inv h
    obtain ⟨k1, k2⟩ := (Bool.and_eq_true _ _).mp hk
    have k1 := of_decide_eq_true k1
    obtain ⟨h1, h2, h⟩ := aGK h
    exact r_last X hd k1.1 k1.2 k2 h1 h2 hP hS (fun H1 locs1 q1 q2 => hgo _ _ _ h B H1 locs1 hl q1 q2)
  | bastore =>
    obtain rfl : len = 1 := hlen
    obtain ⟨x, y, z, r, rfl, h⟩ := pRII_inv h
    obtain ⟨k1, k2⟩ := (Bool.and_eq_true _ _).mp hk
    have k1 := of_decide_eq_true k1
    have k1 : a = 22 ∨ Nat.blt a 20 = false ∧ a % 10 = 3 := k1
    have k2 : rk a = true := k2
    have h : aTP (cond (Nat.beq a 22) (some (gK x a, some (vp_in y (aln x)), ls, r, sa S x y.toNatClampNeg (vp_nar .byte z))) (some (gK x a, some (vp_in y (aln x)), ls, r, sa S x y.toNatClampNeg (vp_nar .boolean z)))) (go 0) := h
    rcases k1 with k1 | k1
    · subst k1
      obtain ⟨h1, h2, h⟩ := aGK h
      exact r_bast X hd rfl rfl k2 h1 h2 hP hS (fun H1 locs1 q1 q2 => hgo _ _ _ h B H1 locs1 hl q1 q2)
    · have hne : Nat.beq a 22 = false := by
        cases hb9 : Nat.beq a 22 with
        | false => rfl
        | true => have := Nat.eq_of_beq_eq_true hb9; omega
      simp only [hne, cond_false] at h
      obtain ⟨h1, h2, h⟩ := aGK h
      exact r_zast X hd k1.1 k1.2 k2 h1 h2 hP hS (fun H1 locs1 q1 q2 => hgo _ _ _ h B H1 locs1 hl q1 q2)
  | arraylength =>
    obtain rfl : len = 1 := hlen
    obtain ⟨x, r, rfl, h⟩ := pR_inv h
    obtain ⟨k1, k2⟩ := (Bool.and_eq_true _ _).mp hk
    have k1 := of_decide_eq_true k1
    obtain ⟨h1, h⟩ := aGK h
    exact r_alen X hd k1.1 k1.2 k2 h1 hP (hgo _ _ _ h B H locs hl hP hS)
  | _ => exact h.elim
end
end
section
/-! the true machine does what the small one says: jumps, returns, calls; methods -/
/-- a method: its name, its code, its locals, what it returns, its class's number, the kind of its receiver (99: none), how many parameters, the locals that are used behind each cut, its instructions -/
abbrev aMI : Type := MethodName × ByteArray × Nat × Option FieldType × Nat × Nat × Nat × (Nat → Nat) × List aE
def aro (ad : Nat → Nat) (v : Value) : Option Value := match v with
  | .null => none
  | .int x => some (.int x)
  | .long x => some (.long x)
  | .ref x => some (.ref (ad x))
  | .float x => some (.float x)
  | .double x => some (.double x)
  | .retAddr x => some (.retAddr x)
def aQc (ad : Nat → Nat) (cy : Nat → ClassId) (D : va_G) (ids : List Nat) (A : Nat → Prop) (Q : Value → aS → Prop) : Array Value → State → Outcome → State → Prop := fun _ st oc t => (∃ (v : Value) (S' : aS), oc = .returned (aro ad v) ∧ Q v S' ∧ va_P D vwCl (aws ad cy ids S') t.heap) ∧ va_F A st t
def aPc (ad : Nat → Nat) (cy : Nat → ClassId) (D : va_G) (ids : List Nat) (Zc : State → Prop) (av : List Value) (S : aS) : Array Value → State → Prop := va_Pc (av.map (atv ad)) fun U => va_P D vwCl (aws ad cy ids S) U.heap ∧ va_K D vwCl (atys cy) U ∧ (∀ w ∈ aNW, va_Nw w U) ∧ Zc U
def aRm (d : Nat) : Room := { frames := d, cells := 0, slots := 0, locals := 120 * d }
/-- what is known of the constants stays so: another frame, warmer tables, other cells written -/
def aZok (A : Nat → Prop) (Zc : State → Prop) : Prop := (∀ (U : State) (g : JFrame) (mk : MethodId) (a : Array Value), Zc U → Zc (U.calling g mk a)) ∧ ∀ (s U : State) (H : Heap) (locs : List Loc), Zc s → s.WarmedH U.vm → va_S A s.heap H locs → U.heap = H → Zc U
theorem aPc_blind {ad : Nat → Nat} {cy : Nat → ClassId} {D : va_G} {ids : List Nat} {A : Nat → Prop} {Zc : State → Prop} (hz : aZok A Zc) {av : List Value} {S : aS} : FrameBlind (aPc ad cy D ids Zc av S) := by
  intro a U g mk h
  obtain ⟨h1, h2, h3, h4, h5⟩ := h
  exact ⟨h1, h2, va_K.moved (u := U) (U := U.calling g mk a) (Vm.Alike.refl U.vm) h3, aNW_same (s := U) (U := U.calling g mk a) rfl h4, hz.1 U g mk a h5⟩
def arc (k : Nat) (av : List Value) (X : Prop) : Prop := match Nat.beq k 99 with
  | true => X
  | false => match av with
    | .ref a :: _ => aG (gK a k) X
    | _ => False
def aif (b : Bool) (X : Prop) : Prop := match b with
  | true => X
  | false => False
theorem aif_mono {b : Bool} {X Y : Prop} (h : X → Y) (x : aif b X) : aif b Y := by
  cases b <;> first | exact h x | exact x
/-- a call at depth d comes to Q -/
def aW (px : aE → aLs → List Value → aS → aT) (MI : Nat → aMI) (tb : Nat → List (Int32 × Nat)) : Nat → Nat → List Value → aS → (Value → aS → Prop) → Prop
  | 0 => fun _ _ _ _ => False
  | d + 1 => fun j av S Q => aif (Nat.ble (alE av).length (MI j).2.2.1) (arc (MI j).2.2.2.2.2.1 av (aP px tb (aW px MI tb d) (MI j).2.2.2.2.2.2.2.1 (MI j).2.2.2.2.2.2.2.2 Q 0 (alc av (MI j).2.2.1) [] S))
theorem arc_mono {k : Nat} {av : List Value} {X Y : Prop} (h : X → Y) (x : arc k av X) : arc k av Y := by
  unfold arc at x ⊢
  split at x
  · exact h x
  · split at x
    · exact aG_mono h x
    · exact x
theorem aW_le {MI : Nat → aMI} {px : aE → aLs → List Value → aS → aT} {tb : Nat → List (Int32 × Nat)} : ∀ (d : Nat) (j : Nat) (av : List Value) (S : aS) (Q Q' : Value → aS → Prop), (∀ v S, Q v S → Q' v S) → aW px MI tb d j av S Q → aW px MI tb (d + 1) j av S Q' ∧ aW px MI tb d j av S Q' := by
  intro d
  induction d with
  | zero => intro j av S Q Q' _ h; exact h.elim
  | succ d ih =>
    intro j av S Q Q' hQ h
    have h : aif (Nat.ble (alE av).length (MI j).2.2.1) (arc (MI j).2.2.2.2.2.1 av (aP px tb (aW px MI tb d) (MI j).2.2.2.2.2.2.2.1 (MI j).2.2.2.2.2.2.2.2 Q 0 (alc av (MI j).2.2.1) [] S)) := h
    exact ⟨aif_mono (arc_mono (aP_mono (fun j a S R R' hR z => (ih j a S R R' hR z).1) hQ)) h, aif_mono (arc_mono (aP_mono (fun j a S R R' hR z => (ih j a S R R' hR z).2) hQ)) h⟩
/-- weaker ends, more depth -/
theorem aW_mono {MI : Nat → aMI} {px : aE → aLs → List Value → aS → aT} {tb : Nat → List (Int32 × Nat)} {d : Nat} {j : Nat} {av : List Value} {S : aS} {Q Q' : Value → aS → Prop} (h : aW px MI tb d j av S Q) (hQ : ∀ v S, Q v S → Q' v S) : aW px MI tb d j av S Q' := (aW_le d j av S Q Q' hQ h).2
theorem aW_up {MI : Nat → aMI} {px : aE → aLs → List Value → aS → aT} {tb : Nat → List (Int32 × Nat)} {d d' : Nat} {j : Nat} {av : List Value} {S : aS} {Q : Value → aS → Prop} (h : aW px MI tb d j av S Q) (hd : d ≤ d') : aW px MI tb d' j av S Q := by
  induction hd with
  | refl => exact h
  | step _ ih => exact (aW_le _ j av S Q Q (fun _ _ z => z) ih).1
theorem aW_cl {MI : Nat → aMI} {px : aE → aLs → List Value → aS → aT} {tb : Nat → List (Int32 × Nat)} (d : Nat) : ∀ j a S R R', (∀ v S, R v S → R' v S) → aW px MI tb d j a S R → aW px MI tb d j a S R' := fun j a S R R' hR h => (aW_le d j a S R R' hR h).2
/-- a method's instructions from a cut on -/
theorem aP_at {MI : Nat → aMI} {px : aE → aLs → List Value → aS → aT} {tb : Nat → List (Int32 × Nat)} {d : Nat} {mk : Nat → Nat} {code : List aE} {Q : Value → aS → Prop} {q : Nat} {ls : aLs} {st : List Value} {S : aS} (h : awp px tb (aW px MI tb d) Q (fun q ls => aP px tb (aW px MI tb d) mk code Q q (amk (mk q) ls)) (code.drop q) 0 true ls st S) : aP px tb (aW px MI tb d) mk code Q q ls st S := aP_go (aW_cl d) h
def pcO (l : List aE) : Option Nat := match l with
  | [] => none
  | n :: _ => some n.1
def ackT (code : List aE) (n : aE) (t : List aE) (off : Int) : Bool := match (match n.2.2.2.2.2.1 with | 0 => pcO (t.drop n.2.2.2.2.1) | _ => pcO (code.drop n.2.2.2.2.1)) with
  | some g => decide ((n.1 : Int) + off = (g : Int))
  | none => false
/-- a switch's rows: the numbers from lo on, where each goes -/
def ackS (code : List aE) (pc : Nat) (lo : Int) (offs : Array Int) : Nat → List (Int32 × Nat) → Bool
  | _, [] => true
  | k, (x, t) :: r => decide (x.toInt = lo + k ∧ (offs[k]?).map (fun o => (pc : Int) + o) = (pcO (code.drop t)).map (fun g => (g : Int)) ∧ (pcO (code.drop t)).isSome = true) && ackS code pc lo offs (k + 1) r
/-- what a program checks of an instruction beside those behind it -/
def ackC (tb : Nat → List (Int32 × Nat)) (ckp : Nat → aE → Bool) (MI : Nat → aMI) (NM : Nat) (MT : List (Nat × Nat × Nat)) (on : Nat) (rk : Nat → Bool) (rt : Option FieldType) (code : List aE) (n : aE) (t : List aE) : Bool := match n.2.1 with
  | .ifCond _ off => ackT code n t off && decide (pcO t = some (n.1 + 3))
  | .if_icmp _ off => ackT code n t off && decide (pcO t = some (n.1 + 3))
  | .if_acmp _ off => ackT code n t off && decide (pcO t = some (n.1 + 3))
  | .goto off => ackT code n t off
  | .tableswitch df lo hi offs => ackS code n.1 lo offs 0 (tb n.2.2.2.2.1) && decide (((tb n.2.2.2.2.1).length : Int) = hi - lo + 1 ∧ -1000 < lo ∧ hi < 1000 ∧ (pcO (code.drop n.2.2.2.2.2.1)).map (fun g => (g : Int)) = some ((n.1 : Int) + df))
  | .ireturn => (match n.2.2.2.2.1 with
    | 0 => decide (rt = some .int)
    | _ => decide (rt = some .boolean))
  | .lreturn => decide (rt = some .long)
  | .areturn => (match rt with
    | some (.object _) => true
    | _ => false)
  | .return_ => decide (rt = none)
  | .invokevirtual i => cond (Nat.ble 5000 n.2.2.2.2.1) (decide (pcO t = some (n.1 + n.2.2.1)) && ckp on n) <| decide ((on, i, n.2.2.2.2.1) ∈ MT ∧ n.2.2.2.2.1 < NM ∧ (MI n.2.2.2.2.1).2.2.2.2.2.1 ≠ 99 ∧ rk (MI n.2.2.2.2.1).2.2.2.2.2.1 = true ∧ n.2.2.2.2.2.1 % 16 = (MI n.2.2.2.2.1).2.2.2.2.2.2.1 + 1 ∧ pcO t = some (n.1 + 3))
  | .invokestatic i => cond (Nat.ble 5000 n.2.2.2.2.1) (decide (pcO t = some (n.1 + n.2.2.1)) && ckp on n) <| decide ((on, i, n.2.2.2.2.1) ∈ MT ∧ n.2.2.2.2.1 < NM ∧ (MI n.2.2.2.2.1).2.2.2.2.2.1 = 99 ∧ n.2.2.2.2.2.1 % 16 = (MI n.2.2.2.2.1).2.2.2.2.2.2.1 ∧ pcO t = some (n.1 + 3))
  | .invokespecial _ => false
  | _ => decide (pcO t = some (n.1 + n.2.2.1)) && cond (Nat.ble 5000 n.2.2.2.2.1) (ckp on n) (ackX on rk n)
def ackL (tb : Nat → List (Int32 × Nat)) (ckp : Nat → aE → Bool) (MI : Nat → aMI) (NM : Nat) (MT : List (Nat × Nat × Nat)) (cc : ByteArray) (on : Nat) (rk : Nat → Bool) (rt : Option FieldType) (code : List aE) : List aE → Bool
  | [] => true
  | n :: t => decide (decode cc n.1 = .ok (n.2.1, n.2.2.1)) && (decide (n.2.2.1 = alen1 n.2.1) && (decide (n.2.2.2.1 = 0 ∨ pcO (code.drop (n.2.2.2.1 - 1)) = some n.1) && (ackC tb ckp MI NM MT on rk rt code n t && ackL tb ckp MI NM MT cc on rk rt code t)))
/-- what is known of a method by the tables -/
def aMok (i : aMI) : Prop := plainName i.1.cls = true ∧ i.1.cls = aCN i.2.2.2.2.1 ∧ i.1.cls ≠ "java/lang/invoke/MethodHandle" ∧ i.1.cls ≠ "java/lang/invoke/VarHandle" ∧ (parseMethodDescriptor i.1.desc).map (fun d => d.parameters.length) = some i.2.2.2.2.2.2.1 ∧ i.2.2.1 ≤ 100 ∧ Cond.code i.1 i.2.1 i.2.2.1 i.2.2.2.1 ∈ aWS ∧ Cond.initialized i.1.cls ∈ aWS ∧
  ((i.2.2.2.2.2.1 = 99 ∧ Cond.static i.1 ∈ aWS) ∨ (i.2.2.2.2.2.1 ≠ 99 ∧ (∃ r : vw_C, vwCl[i.2.2.2.2.2.1]? = some r ∧ r.1 = i.1.cls) ∧ Cond.instanceMethod i.1 ∈ aWS ∧ Cond.selects i.1.cls i.1 i.1 ∈ aWS))
/-- what is known of a call's link -/
def aMTok (MI : Nat → aMI) (q : Nat × Nat × Nat) : Prop := Cond.methodLink (aCN q.1) q.2.1 (MI q.2.2).1 ∈ aWS
end
section
/-! jumps, returns, calls -/
theorem aif_out {b : Bool} {X : Prop} (h : aif b X) : X := by
  cases b <;> first | exact h | exact h.elim
theorem aif_tr {b : Bool} {X : Prop} (h : aif b X) : b = true := by
  cases b <;> first | rfl | exact h.elim
theorem arc_out {k : Nat} {av : List Value} {X : Prop} (h : arc k av X) : X := by
  unfold arc at h
  split at h
  · exact h
  · split at h
    · exact (aGK h).2
    · exact h.elim
theorem aro_cat {ad : Nat → Nat} {n : Nat} {v : Value} {k : List Value → Prop} (h : arv n v k) : ∃ w : List Value, k w ∧ (aro ad v).toList = w.map (atv ad) := by
  match n with
  | 0 => cases v <;> first | exact ⟨[], h, rfl⟩ | exact h.elim
  | 1 => cases v <;> first | exact ⟨_, h, rfl⟩ | exact h.elim
  | 2 => cases v <;> first | exact ⟨_, h, rfl⟩ | exact h.elim
  | n + 3 => cases v <;> first | exact ⟨_, h, rfl⟩ | exact h.elim
theorem acs_map {ad : Nat → Nat} (st : List Value) : ((st.map (atv ad)).map fun v => v.category).sum = acs st := by
  unfold acs
  rw [List.map_map]
  congr 1
  exact List.map_congr_left fun v _ => atv_cat ad v
theorem ackT_inv {code : List aE} {n : aE} {t : List aE} {off : Int} (h : ackT code n t off = true) : ∃ g : Nat, (match n.2.2.2.2.2.1 with | 0 => pcO (t.drop n.2.2.2.2.1) | _ => pcO (code.drop n.2.2.2.2.1)) = some g ∧ (n.1 : Int) + off = (g : Int) := by
  unfold ackT at h
  split at h
  · rename_i g e; exact ⟨g, e, of_decide_eq_true h⟩
  · cases h
section
variable {p : Program} {l : Launch} {e : Env} {R : Room} {s : State} {m : MethodId} {args : Array Value} {below : List Frame} {meth : Method} {c : Code} {cc : ByteArray} {nL on : Nat} {ad : Nat → Nat} {cy : Nat → ClassId} {D : va_G} {ids : List Nat} {A : Nat → Prop} {rk : Nat → Bool} {Zc : State → Prop} {Qs : State → Prop} {pc : Nat} {B : Array Slot} {H : Heap} {locs : List Loc}
/-- behind a call -/
theorem r_run {Q : Value → aS → Prop} {a' : Array Value} {st0 rest : List Value} (hr : va_Run p l e R s m args below meth c H locs 0 0 0 0 (F0 m pc B st0) rest (aQc ad cy D ids A Q a') A) (hS : va_S A s.heap H locs)
    (kk : ∀ (v : Value) (S' : aS) (H1 : Heap) (locs1 : List Loc), Q v S' → va_P D vwCl (aws ad cy ids S') H1 → va_S A s.heap H1 locs1 → W p l e R s m args below meth c H1 locs1 0 0 Qs (F0 m (pc + 3) B ((aro ad v).toList ++ rest))) : W p l e R s m args below meth c H locs 0 0 Qs (F0 m pc B st0) := by
  intro T hT X
  obtain ⟨v, st₀, t, T', L, h0, X', hL, e1, e2, ⟨⟨v1, S1, hv, hq, hp⟩, hz, hk⟩, stp⟩ := hr T hT X
  cases hv
  rw [h0] at hz hk
  obtain ⟨t2, a1, b1⟩ := kk v1 S1 T'.heap (locs ++ L) hq (by rw [e1]; exact hp)
    ⟨Nat.le_trans hS.1 (by rw [e1]; exact hz), fun q h1 h2 => by rw [e1, hk q (Nat.lt_of_lt_of_le h1 hS.1) h2]; exact hS.2.1 q h1 h2, fun q hq => by
      rcases List.mem_append.mp hq with h | h
      · exact hS.2.2 q h
      · exact hL q h⟩ T' rfl X'
  exact ⟨t2, stp t2 a1, b1⟩
variable {MI : Nat → aMI} {px : aE → aLs → List Value → aS → aT} {tb : Nat → List (Int32 × Nat)} {NM : Nat} {MT : List (Nat × Nat × Nat)} {d : Nat}
/-- the contract of a method of the small machine at a call -/
def aMet (l : Launch) (ad : Nat → Nat) (cy : Nat → ClassId) (D : va_G) (ids : List Nat) (A : Nat → Prop) (Zc : State → Prop) (MI : Nat → aMI) (d j : Nat) (av : List Value) (S : aS) (Q : Value → aS → Prop) : Prop :=
  Met l (MI j).1 (Cond.code (MI j).1 (MI j).2.1 (MI j).2.2.1 (MI j).2.2.2.1 :: aWS) (aRm d) (aPc ad cy D ids Zc av S) (aQc ad cy D ids A Q) 0 0 A
theorem aGood {y : MethodName} {b : ByteArray} {n : Nat} {r : Option FieldType} (h : Cond.code y b n r ∈ aWS) {ws : List Cond} (hw : ∀ w ∈ ws, w ∈ aWS) : GoodIn aWS (ws ++ (Cond.code y b n r :: aWS)) := aWS_goodIn (fun _ h => h) fun w hw' => by
  rcases List.mem_append.mp hw' with z | z
  · exact hw w z
  · rcases List.mem_cons.mp z with z | z
    · rw [z]; exact h
    · exact z
theorem r_callV (X : aCx p s m args c cc nL on ad cy D ids A rk Zc) (hzo : aZok A Zc) (hR : R = aRm (d + 1)) {j i : Nat} {rest : List Value} {S : aS} {Q : Value → aS → Prop} {b0 : Nat} {As : List Value} {ls9 : aLs} (hj : aMok (MI j)) (hk : (MI j).2.2.2.2.2.1 ≠ 99) (hl : Cond.methodLink (aCN on) i (MI j).1 ∈ aWS) (hn : As.length = (MI j).2.2.2.2.2.2.1) (hb0 : akd b0 = (MI j).2.2.2.2.2.1) (hreg : rk (MI j).2.2.2.2.2.1 = true)
    (hM : aMet l ad cy D ids A Zc MI d j (.ref b0 :: As) S Q) (hd : decode cc pc = .ok (.invokevirtual i, 3)) (hcs : acs rest ≤ 8) (hl9 : aHas ad B nL ls9) (hP : va_P D vwCl (aws ad cy ids S) H) (hS : va_S A s.heap H locs)
    (kk : ∀ (v : Value) (S' : aS) (H1 : Heap) (locs1 : List Loc), Q v S' → va_P D vwCl (aws ad cy ids S') H1 → va_S A s.heap H1 locs1 → W p l e R s m args below meth c H1 locs1 0 0 Qs (F0 m (pc + 3) B ((aro ad v).toList ++ rest.map (atv ad)))) :
    W p l e R s m args below meth c H locs 0 0 Qs (F0 m pc B ((As.map (atv ad)).reverse ++ .ref (ad b0) :: rest.map (atv ad))) := by
  have X' := X
  obtain ⟨hexec, hb, hml, hown, hts, hnw, hK, hnd, hA, hi, hreg', hZ⟩ := X
  obtain ⟨h1, h2, h3, h4, h5, h6, h7, h8, h9⟩ := hj
  rcases h9 with h9 | ⟨-, ⟨r, hr1, hr2⟩, h10, h11⟩
  · exact absurd h9.1 hk
  obtain ⟨q0, g1, g2⟩ := aws_at (ad := ad) (cy := cy) (S := S) (hreg' b0 _ hb0 hreg)
  have hlt : (MI j).2.2.2.2.2.1 < 12 := (List.getElem?_eq_some_iff.mp hr1).1
  rw [ace_obj hb0 (Nat.ble_eq_true_of_le (by omega))] at g2
  have hrv := va_recv hK hP hr1 g2
  rw [hr2] at hrv
  subst hR
  refine r_run (va_runV (As := As.map (atv ad)) (rest := rest.map (atv ad)) (Ts := aWS) ⟨hexec, hb, hml, hown, hts⟩ hM (cwV (MI j).2.2.2.2.2.2.1 hts (aGood h7 (fun w hw => ?_)) rfl rfl rfl ⟨rfl, h3, h4, h5⟩ ⟨Nat.le_refl _, ?_⟩) ⟨aPc_blind hzo, hrv, fun U hU hW => ⟨rfl, by rw [hU]; exact hP, va_K.moved hW.alike hK, aNW_warm hW hnw, hzo.2 s U H locs hZ.1 hW hS hU⟩⟩ rfl (by rw [List.length_map]; exact hn) hl9.2.1 rfl (lv_room (by rw [acs_map]; exact hcs)) hd ⟨Nat.le_refl _, Nat.le_refl _⟩) hS kk
  · rcases List.mem_cons.mp hw with z | hw
    · rw [z]; exact hl
    · rcases List.mem_cons.mp hw with z | hw
      · rw [z]; exact h10
      · rcases List.mem_cons.mp hw with z | hw
        · rw [z]; exact h11
        · rcases List.mem_cons.mp hw with z | hw
          · rw [z]; exact h8
          · cases hw
  · show 8 + ((MI j).2.2.1 + 11) + 120 * d ≤ 120 * (d + 1)
    omega
theorem r_callS (X : aCx p s m args c cc nL on ad cy D ids A rk Zc) (hzo : aZok A Zc) (hR : R = aRm (d + 1)) {j i : Nat} {rest : List Value} {S : aS} {Q : Value → aS → Prop} {As : List Value} {ls9 : aLs} (hj : aMok (MI j)) (hk : (MI j).2.2.2.2.2.1 = 99) (hl : Cond.methodLink (aCN on) i (MI j).1 ∈ aWS) (hn : As.length = (MI j).2.2.2.2.2.2.1)
    (hM : aMet l ad cy D ids A Zc MI d j As S Q) (hd : decode cc pc = .ok (.invokestatic i, 3)) (hcs : acs rest ≤ 8) (hl9 : aHas ad B nL ls9) (hP : va_P D vwCl (aws ad cy ids S) H) (hS : va_S A s.heap H locs)
    (kk : ∀ (v : Value) (S' : aS) (H1 : Heap) (locs1 : List Loc), Q v S' → va_P D vwCl (aws ad cy ids S') H1 → va_S A s.heap H1 locs1 → W p l e R s m args below meth c H1 locs1 0 0 Qs (F0 m (pc + 3) B ((aro ad v).toList ++ rest.map (atv ad)))) :
    W p l e R s m args below meth c H locs 0 0 Qs (F0 m pc B ((As.map (atv ad)).reverse ++ rest.map (atv ad))) := by
  obtain ⟨hexec, hb, hml, hown, hts, hnw, hK, hnd, hA, hi, hreg', hZ⟩ := X
  obtain ⟨h1, h2, h3, h4, h5, h6, h7, h8, h9⟩ := hj
  rcases h9 with ⟨-, h9⟩ | h9
  · subst hR
    refine r_run (va_runS (As := As.map (atv ad)) (rest := rest.map (atv ad)) (Ts := aWS) ⟨hexec, hb, hml, hown, hts⟩ hM ⟨callB_of (MI j).2.2.2.2.2.2.1 hts (aGood (ws := []) h7 (fun _ h => by cases h)) rfl rfl rfl (hts _ h8) (hts _ hl) ⟨h3, h4, h5⟩ ⟨Nat.le_refl _, ?_⟩, hts _ h9⟩ ⟨aPc_blind hzo, fun U hU hW => ⟨rfl, by rw [hU]; exact hP, va_K.moved hW.alike hK, aNW_warm hW hnw, hzo.2 s U H locs hZ.1 hW hS hU⟩⟩ rfl (by rw [List.length_map]; exact hn) hl9.2.1 rfl (lv_room (by rw [acs_map]; exact hcs)) hd ⟨Nat.le_refl _, Nat.le_refl _⟩) hS kk
    show 8 + ((MI j).2.2.1 + 11) + 120 * d ≤ 120 * (d + 1)
    omega
  · exact absurd hk h9.1
end
end
section
/-! the whole of it: a row of instructions, a method -/
theorem aM_max_s : Cond.static Lib.Math.max.name ∈ aWS := aW_t 613 (by decide +kernel) (by decide +kernel)
theorem aM_max_c : Cond.code Lib.Math.max.name Lib.Math.max.code 2 (some .int) ∈ aWS := aW_t 614 (by decide +kernel) (by decide +kernel)
theorem aM_min_s : Cond.static Lib.Math.min.name ∈ aWS := aW_t 737 (by decide +kernel) (by decide +kernel)
theorem aM_min_c : Cond.code Lib.Math.min.name Lib.Math.min.code 2 (some .int) ∈ aWS := aW_t 738 (by decide +kernel) (by decide +kernel)
theorem aM_i : Cond.initialized "java/lang/Math" ∈ aWS := aW_t 21 (by decide +kernel) (by decide +kernel)
section
variable {px : aE → aLs → List Value → aS → aT} {tb : Nat → List (Int32 × Nat)} {cl : Nat → List Value → aS → (Value → aS → Prop) → Prop} {Q : Value → aS → Prop} {nx : Nat → aLs → List Value → aS → Prop} {go : Nat → aLs → List Value → aS → Prop} {ls : aLs} {st : List Value} {S : aS} {pc : Nat} {r : Nat × Nat × Nat × Nat × Int32 × Int64}
theorem v_ifCond {cnd : ClassFile.Cond} {off : Int} (h : astp px tb cl Q nx (pc, .ifCond cnd off, r) go ls st S) : ∃ x s, st = .int x :: s ∧ abr cnd x 0 (ajp (pc, .ifCond cnd off, r) nx go ls s S) (go 0 ls s S) := by
  unfold astp at h; dsimp only at h; split at h
  · exact ⟨_, _, rfl, h⟩
  · exact h.elim
theorem v_icmp {cnd : ClassFile.Cond} {off : Int} (h : astp px tb cl Q nx (pc, .if_icmp cnd off, r) go ls st S) : ∃ x y s, st = .int y :: .int x :: s ∧ abr cnd x y (ajp (pc, .if_icmp cnd off, r) nx go ls s S) (go 0 ls s S) := by
  unfold astp at h; dsimp only at h; split at h
  · exact ⟨_, _, _, rfl, h⟩
  · exact h.elim
theorem v_goto {off : Int} (h : astp px tb cl Q nx (pc, .goto off, r) go ls st S) : ajp (pc, .goto off, r) nx go ls st S := h
theorem v_iret (h : astp px tb cl Q nx (pc, .ireturn, r) go ls st S) : ∃ x, st = [.int x] ∧ (r.2.2.1 = 0 → Q (.int x) S) ∧ (r.2.2.1 ≠ 0 → (x = 0 ∨ x = 1) ∧ Q (.int x) S) := by
  unfold astp at h; dsimp only at h; split at h
  · split at h
    · rename_i hz; exact ⟨_, rfl, fun _ => h, fun z => absurd hz z⟩
    · rename_i hz; exact ⟨_, rfl, fun z => absurd z hz, fun _ => h⟩
  · exact h.elim
theorem v_lret (h : astp px tb cl Q nx (pc, .lreturn, r) go ls st S) : ∃ x, st = [.long x] ∧ Q (.long x) S := by
  unfold astp at h; dsimp only at h; split at h
  · exact ⟨_, rfl, h⟩
  · exact h.elim
theorem v_aret (h : astp px tb cl Q nx (pc, .areturn, r) go ls st S) : ∃ x, st = [.ref x] ∧ Q (.ref x) S := by
  unfold astp at h; dsimp only at h; split at h
  · exact ⟨_, rfl, h⟩
  · exact h.elim
theorem v_vret (h : astp px tb cl Q nx (pc, .return_, r) go ls st S) : st = [] ∧ Q .null S := by
  unfold astp at h; dsimp only at h; split at h
  · exact ⟨rfl, h⟩
  · exact h.elim
theorem v_acl {e : aE} (h : acl cl e go ls st S) : acs (st.drop (e.2.2.2.2.2.1 % 16)) ≤ 8 ∧ e.2.2.2.2.2.1 % 16 ≤ st.length ∧ cl e.2.2.2.2.1 (st.take (e.2.2.2.2.2.1 % 16)).reverse S (fun v S' => arv (e.2.2.2.2.2.1 / 16) v fun l => go 0 ls (l ++ st.drop (e.2.2.2.2.2.1 % 16)) S') := by
  unfold acl at h
  split at h
  · rename_i hbl
    obtain ⟨b1, b2⟩ := (Bool.and_eq_true _ _).mp hbl
    exact ⟨Nat.le_of_ble_eq_true b1, Nat.le_of_ble_eq_true b2, h⟩
  · exact h.elim
theorem v_inv {i : Nat} (h : astp px tb cl Q nx (pc, .invokevirtual i, r) go ls st S) : cond (Nat.ble 5000 r.2.2.1) (apw px (pc, .invokevirtual i, r) go ls st S) (acl cl (pc, .invokevirtual i, r) go ls st S) := h
theorem v_ins {i : Nat} (h : astp px tb cl Q nx (pc, .invokestatic i, r) go ls st S) : cond (Nat.ble 5000 r.2.2.1) (apw px (pc, .invokestatic i, r) go ls st S) (acl cl (pc, .invokestatic i, r) go ls st S) := h
theorem v_acmp {cnd : ClassFile.ACond} {off : Int} (h : astp px tb cl Q nx (pc, .if_acmp cnd off, r) go ls st S) : ∃ x y s, st = .ref y :: .ref x :: s ∧ aG (gC x) (aG (gC y) (aba cnd x y (ajp (pc, .if_acmp cnd off, r) nx go ls s S) (go 0 ls s S))) := by
  unfold astp at h; dsimp only at h; split at h
  · exact ⟨_, _, _, rfl, h⟩
  · exact h.elim
theorem v_tsw {df lo hi : Int} {offs : Array Int} (h : astp px tb cl Q nx (pc, .tableswitch df lo hi offs, r) go ls st S) : ∃ x s, st = .int x :: s ∧ asw x r.2.2.2.1 (fun t => nx t ls s S) (tb r.2.2.1) := by
  unfold astp at h; dsimp only at h; split at h
  · exact ⟨_, _, rfl, h⟩
  · exact h.elim
theorem v_apw {e : aE} (h : apw px e go ls st S) : (Nat.ble 5000 e.2.2.2.2.1 = true → aTP (px e ls st S) (go 0)) ∧ (Nat.ble 5000 e.2.2.2.2.1 = false → aTP (apu e ls st S) (go 0)) := by
  have h : aTP (cond (Nat.ble 5000 e.2.2.2.2.1) (px e ls st S) (apu e ls st S)) (go 0) := h
  constructor
  · intro z; rw [z] at h; exact h
  · intro z; rw [z] at h; exact h
theorem aGC {x : Nat} {X : Prop} (h : aG (gC x) X) : 2000 ≤ x ∧ x ≤ 2099 ∧ X := by
  unfold gC at h
  cases hb : (Nat.ble 2000 x && Nat.ble x 2099) with
  | true =>
    rw [hb] at h
    obtain ⟨b1, b2⟩ := (Bool.and_eq_true _ _).mp hb
    exact ⟨Nat.le_of_ble_eq_true b1, Nat.le_of_ble_eq_true b2, h⟩
  | false => rw [hb] at h; exact ⟨h.1.1, h.1.2, h.2⟩
/-- a switch: none of its rows, or one of them -/
theorem asw_none {x : Int32} {d : Nat} {k : Nat → Prop} : ∀ (l : List (Int32 × Nat)), (∀ q ∈ l, x ≠ q.1) → asw x d k l → k d
  | [], _, h => h
  | (c, t) :: r, hn, h => asw_none r (fun q hq => hn q (List.mem_cons_of_mem _ hq)) (h.2 (hn _ List.mem_cons_self))
theorem asw_some {x : Int32} {d : Nat} {k : Nat → Prop} : ∀ (l : List (Int32 × Nat)) (i : Nat) (t : Nat), l[i]? = some (x, t) → (∀ (j : Nat) (q : Int32 × Nat), j < i → l[j]? = some q → x ≠ q.1) → asw x d k l → k t
  | [], i, t, h, _, _ => by cases h
  | (c, t') :: r, 0, t, h, _, z => by cases h; exact z.1 rfl
  | (c, t') :: r, i + 1, t, h, hn, z => asw_some r i t h (fun j q hj hq => hn (j + 1) q (Nat.succ_lt_succ hj) hq) (z.2 (hn 0 _ (Nat.zero_lt_succ _) rfl))
theorem ackS_get {code : List aE} {pc : Nat} {lo : Int} {offs : Array Int} : ∀ (l : List (Int32 × Nat)) (k : Nat), ackS code pc lo offs k l = true → ∀ (i : Nat) (q : Int32 × Nat), l[i]? = some q → q.1.toInt = lo + ((k + i : Nat) : Int) ∧ ∃ (o : Int) (g : Nat), offs[k + i]? = some o ∧ pcO (code.drop q.2) = some g ∧ (pc : Int) + o = (g : Int)
  | [], k, _, i, q, h => by cases h
  | (c, t) :: r, k, hk, i, q, h => by
    obtain ⟨h1, h2⟩ := (Bool.and_eq_true _ _).mp hk
    obtain ⟨e1, e2, e3⟩ := of_decide_eq_true h1
    cases i with
    | zero =>
      cases h
      refine ⟨e1, ?_⟩
      cases ho : offs[k]? with
      | none =>
        rw [ho] at e2
        cases hg : pcO (code.drop t) with
        | none => rw [hg] at e3; cases e3
        | some g => rw [hg] at e2; cases e2
      | some o =>
        cases hg : pcO (code.drop t) with
        | none => rw [hg] at e3; cases e3
        | some g =>
          rw [ho, hg] at e2
          exact ⟨o, g, rfl, rfl, Option.some.inj e2⟩
    | succ i =>
      have := ackS_get r (k + 1) h2 i q h
      rw [show k + 1 + i = k + (i + 1) from by omega] at this
      exact this
end
theorem narrow_z {x : Int32} (h : x = 0 ∨ x = 1) : narrow .boolean (.int x) = .int x := by
  rcases h with h | h <;> rw [h] <;> rfl
/-- instructions that do not go on to the next one -/
def actl (i : ClassFile.Instr) : Bool := match i with
  | .ifCond _ _ => true
  | .if_icmp _ _ => true
  | .if_acmp _ _ => true
  | .goto _ => true
  | .tableswitch _ _ _ _ => true
  | .ireturn => true
  | .lreturn => true
  | .areturn => true
  | .return_ => true
  | .invokevirtual _ => true
  | .invokespecial _ => true
  | .invokestatic _ => true
  | _ => false
theorem v_pure {px : aE → aLs → List Value → aS → aT} {tb : Nat → List (Int32 × Nat)} {cl : Nat → List Value → aS → (Value → aS → Prop) → Prop} {Q : Value → aS → Prop} {nx : Nat → aLs → List Value → aS → Prop} {go : Nat → aLs → List Value → aS → Prop} {ls : aLs} {st : List Value} {S : aS} {n : aE} (hp : actl n.2.1 = false) (h : astp px tb cl Q nx n go ls st S) : apw px n go ls st S := by
  obtain ⟨pc, i, r⟩ := n
  unfold astp at h
  cases i <;> first | exact h | cases hp
theorem v_pureC {tb : Nat → List (Int32 × Nat)} {ckp : Nat → aE → Bool} {MI : Nat → aMI} {NM : Nat} {MT : List (Nat × Nat × Nat)} {on : Nat} {rk : Nat → Bool} {rt : Option FieldType} {code : List aE} {n : aE} {t : List aE} (hp : actl n.2.1 = false) (h : ackC tb ckp MI NM MT on rk rt code n t = true) : pcO t = some (n.1 + n.2.2.1) ∧ cond (Nat.ble 5000 n.2.2.2.2.1) (ckp on n) (ackX on rk n) = true := by
  have key : ackC tb ckp MI NM MT on rk rt code n t = (decide (pcO t = some (n.1 + n.2.2.1)) && cond (Nat.ble 5000 n.2.2.2.2.1) (ckp on n) (ackX on rk n)) := by
    obtain ⟨pc, i, r⟩ := n
    unfold ackC
    cases i <;> first | rfl | cases hp
  rw [key] at h
  obtain ⟨h1, h2⟩ := (Bool.and_eq_true _ _).mp h
  exact ⟨of_decide_eq_true h1, h2⟩
section
variable {p : Program} {l : Launch} {e : Env} {R : Room} {s : State} {m : MethodId} {args : Array Value} {below : List Frame} {meth : Method} {c : Code} {cc : ByteArray} {nL on : Nat} {ad : Nat → Nat} {cy : Nat → ClassId} {D : va_G} {ids : List Nat} {A : Nat → Prop} {rk : Nat → Bool} {Zc : State → Prop}
variable {MI : Nat → aMI} {px : aE → aLs → List Value → aS → aT} {tb : Nat → List (Int32 × Nat)} {NM : Nat} {MT : List (Nat × Nat × Nat)} {d : Nat}
variable {ckp : Nat → aE → Bool}
/-- the small machine's further steps are those of the true one -/
def aPx (px : aE → aLs → List Value → aS → aT) (ckp : Nat → aE → Bool) (p : Program) (l : Launch) (e : Env) (R : Room) (s : State) (m : MethodId) (args : Array Value) (below : List Frame) (meth : Method) (c : Code) (cc : ByteArray) (nL on : Nat) (ad : Nat → Nat) (cy : Nat → ClassId) (D : va_G) (ids : List Nat) (A : Nat → Prop) (Qs : State → Prop) : Prop :=
  ∀ (n : aE) (ls : aLs) (st : List Value) (S : aS) (Z : aLs → List Value → aS → Prop), decode cc n.1 = .ok (n.2.1, n.2.2.1) → n.2.2.1 = alen1 n.2.1 → Nat.ble 5000 n.2.2.2.2.1 = true → ckp on n = true → aTP (px n ls st S) Z →
    (∀ ls' st' S', Z ls' st' S' → aWg p l e R s m args below meth c nL ad cy D ids A Qs (n.1 + n.2.2.1) ls' st' S') → aWg p l e R s m args below meth c nL ad cy D ids A Qs n.1 ls st S
set_option maxHeartbeats 1000000 in
theorem aw_ok (X : aCx p s m args c cc nL on ad cy D ids A rk Zc) (hzo : aZok A Zc) (hR : R = aRm (d + 1)) (hMI : ∀ j, j < NM → aMok (MI j)) (hMT : ∀ q ∈ MT, aMTok MI q)
    (IH : ∀ j av S Q, j < NM → aW px MI tb d j av S Q → aMet l ad cy D ids A Zc MI d j av S Q) {rt : Option FieldType} (hr : meth.sig.returnType = rt) (hlocks : meth.locks = false) {Q : Value → aS → Prop} {code : List aE} {nx : Nat → aLs → List Value → aS → Prop}
    (hpx : aPx px ckp p l e R s m args below meth c cc nL on ad cy D ids A (MQ below (aQc ad cy D ids A Q) args s 0 0 A))
    (hnx : ∀ q ls st S, nx q ls st S → ∀ g, pcO (code.drop q) = some g → aWg p l e R s m args below meth c nL ad cy D ids A (MQ below (aQc ad cy D ids A Q) args s 0 0 A) g ls st S) :
    ∀ (t : List aE), ackL tb ckp MI NM MT cc on rk rt code t = true → ∀ (k : Nat) (f : Bool) (ls : aLs) (st : List Value) (S : aS), awp px tb (aW px MI tb d) Q nx t k f ls st S → ∀ g, pcO (t.drop k) = some g → aWg p l e R s m args below meth c nL ad cy D ids A (MQ below (aQc ad cy D ids A Q) args s 0 0 A) g ls st S := by
  have hx := X.1
  have hb := X.2.1
  have hml := X.2.2.1
  have hown := X.2.2.2.1
  have hts := X.2.2.2.2.1
  intro t
  induction t with
  | nil => intro _ k f ls st S h; exact h.elim
  | cons n t ih =>
    intro hck k f ls st S h g hg
    obtain ⟨hd, hck⟩ := (Bool.and_eq_true _ _).mp hck
    obtain ⟨hlen, hck⟩ := (Bool.and_eq_true _ _).mp hck
    obtain ⟨hcut, hck⟩ := (Bool.and_eq_true _ _).mp hck
    obtain ⟨hc, hckt⟩ := (Bool.and_eq_true _ _).mp hck
    replace hd := of_decide_eq_true hd
    replace hlen := of_decide_eq_true hlen
    replace hcut := of_decide_eq_true hcut
    have ih := ih hckt
    cases k with
    | succ k => exact ih k f ls st S h g hg
    | zero =>
      have hg : n.1 = g := Option.some.inj hg
      subst hg
      replace h : cond (f || Nat.beq n.2.2.2.1 0) (astp px tb (aW px MI tb d) Q nx n (fun k => awp px tb (aW px MI tb d) Q nx t k false) ls st S) (nx (n.2.2.2.1 - 1) ls st S) := h
      cases hb0 : (f || Nat.beq n.2.2.2.1 0) with
      | false =>
        rw [hb0] at h
        have h0 : Nat.beq n.2.2.2.1 0 = false := by cases f <;> simp_all
        rcases hcut with z | z
        · rw [z] at h0; cases h0
        · exact hnx _ _ _ _ h _ z
      | true =>
        rw [hb0] at h
        replace h : astp px tb (aW px MI tb d) Q nx n (fun k => awp px tb (aW px MI tb d) Q nx t k false) ls st S := h
        have J : ∀ (off : Int), ackT code n t off = true → ∃ g : Nat, (n.1 : Int) + off = (g : Int) ∧ ∀ st' : List Value, ajp n nx (fun k => awp px tb (aW px MI tb d) Q nx t k false) ls st' S → aWg p l e R s m args below meth c nL ad cy D ids A (MQ below (aQc ad cy D ids A Q) args s 0 0 A) g ls st' S := by
          intro off hT
          obtain ⟨g, h1, h2⟩ := ackT_inv hT
          refine ⟨g, h2, fun st' z => ?_⟩
          unfold ajp at z
          split at z
          · rename_i hz
            rw [hz] at h1
            exact ih _ _ _ _ _ z _ h1
          · rename_i hz
            refine hnx _ _ _ _ z _ ?_
            split at h1
            · exact absurd ‹_› hz
            · exact h1
        cases hp : actl n.2.1 with
        | false =>
          obtain ⟨c1, c2⟩ := v_pureC hp hc
          cases h5 : Nat.ble 5000 n.2.2.2.2.1 with
          | true => rw [h5] at c2; exact hpx n ls st S (awp px tb (aW px MI tb d) Q nx t 0 false) hd hlen h5 c2 ((v_apw (v_pure hp h)).1 h5) (fun ls' st' S' z => ih 0 false ls' st' S' z _ c1)
          | false => rw [h5] at c2; exact apw_ok (go := fun k => awp px tb (aW px MI tb d) Q nx t k false) X hd hlen c2 ((v_apw (v_pure hp h)).2 h5) (fun ls' st' S' z => ih 0 false ls' st' S' z _ c1)
        | true =>
        obtain ⟨pc, i, len, cut, a, b, v, w⟩ := n
        dsimp only at hd hlen hcut J hp ⊢
        cases i with
        | ifCond cnd off =>
          obtain rfl : len = 3 := hlen
          obtain ⟨c1, c2⟩ := (Bool.and_eq_true _ _).mp hc
          have c2 := of_decide_eq_true c2
          obtain ⟨g, hg1, hg2⟩ := J off c1
          have h' := v_ifCond h
          clear h
          obtain ⟨x, s9, rfl, h⟩ := h'
          · intro B H locs hl hP hS
            cases cnd with
            | eq => exact lv_if_eq hx hb hd hg1 (fun z => hg2 _ (h.1 z) B H locs hl hP hS) (fun z => ih _ _ _ _ _ (h.2 z) _ c2 B H locs hl hP hS)
            | ne => exact lv_if_ne hx hb hd hg1 (fun z => hg2 _ (h.1 z) B H locs hl hP hS) (fun z => ih _ _ _ _ _ (h.2 z) _ c2 B H locs hl hP hS)
            | lt => exact lv_if_lt hx hb hd hg1 (fun z => hg2 _ (h.1 z) B H locs hl hP hS) (fun z => ih _ _ _ _ _ (h.2 z) _ c2 B H locs hl hP hS)
            | ge => exact lv_if_ge hx hb hd hg1 (fun z => hg2 _ (h.1 z) B H locs hl hP hS) (fun z => ih _ _ _ _ _ (h.2 z) _ c2 B H locs hl hP hS)
            | gt => exact lv_if_gt hx hb hd hg1 (fun z => hg2 _ (h.1 z) B H locs hl hP hS) (fun z => ih _ _ _ _ _ (h.2 z) _ c2 B H locs hl hP hS)
            | le => exact lv_if_le hx hb hd hg1 (fun z => hg2 _ (h.1 z) B H locs hl hP hS) (fun z => ih _ _ _ _ _ (h.2 z) _ c2 B H locs hl hP hS)
        | if_icmp cnd off =>
          obtain rfl : len = 3 := hlen
          obtain ⟨c1, c2⟩ := (Bool.and_eq_true _ _).mp hc
          have c2 := of_decide_eq_true c2
          obtain ⟨g, hg1, hg2⟩ := J off c1
          have h' := v_icmp h
          clear h
          obtain ⟨x, y, s9, rfl, h⟩ := h'
          · intro B H locs hl hP hS
            cases cnd with
            | eq => exact lv_icmp_eq hx hb hd hg1 (fun z => hg2 _ (h.1 z) B H locs hl hP hS) (fun z => ih _ _ _ _ _ (h.2 z) _ c2 B H locs hl hP hS)
            | ne => exact lv_icmp_ne hx hb hd hg1 (fun z => hg2 _ (h.1 z) B H locs hl hP hS) (fun z => ih _ _ _ _ _ (h.2 z) _ c2 B H locs hl hP hS)
            | lt => exact lv_icmp_lt hx hb hd hg1 (fun z => hg2 _ (h.1 z) B H locs hl hP hS) (fun z => ih _ _ _ _ _ (h.2 z) _ c2 B H locs hl hP hS)
            | ge => exact lv_icmp_ge hx hb hd hg1 (fun z => hg2 _ (h.1 z) B H locs hl hP hS) (fun z => ih _ _ _ _ _ (h.2 z) _ c2 B H locs hl hP hS)
            | gt => exact lv_icmp_gt hx hb hd hg1 (fun z => hg2 _ (h.1 z) B H locs hl hP hS) (fun z => ih _ _ _ _ _ (h.2 z) _ c2 B H locs hl hP hS)
            | le => exact lv_icmp_le hx hb hd hg1 (fun z => hg2 _ (h.1 z) B H locs hl hP hS) (fun z => ih _ _ _ _ _ (h.2 z) _ c2 B H locs hl hP hS)
        | if_acmp cnd off =>
          obtain rfl : len = 3 := hlen
          obtain ⟨c1, c2⟩ := (Bool.and_eq_true _ _).mp hc
          have c2 := of_decide_eq_true c2
          obtain ⟨g, hg1, hg2⟩ := J off c1
          have h' := v_acmp h
          clear h
          obtain ⟨x, y, s9, rfl, h⟩ := h'
          obtain ⟨x1, x2, h⟩ := aGC h
          obtain ⟨y1, y2, h⟩ := aGC h
          have inj := X.2.2.2.2.2.2.2.2.2.2.2.2
          have hiff : some (ad x) = some (ad y) ↔ x = y := ⟨fun z => inj x y x1 x2 y1 y2 (Option.some.inj z), fun z => by rw [z]⟩
          intro B H locs hl hP hS
          cases cnd with
          | eq => exact lv_acmp_eq (rx := some (ad x)) (ry := some (ad y)) hx hb hd hg1 (fun z => hg2 _ (h.1 (hiff.mp z)) B H locs hl hP hS) (fun z => ih _ _ _ _ _ (h.2 (fun q => z (hiff.mpr q))) _ c2 B H locs hl hP hS)
          | ne => exact lv_acmp_ne (rx := some (ad x)) (ry := some (ad y)) hx hb hd hg1 (fun z => hg2 _ (h.1 (fun q => z (hiff.mpr q))) B H locs hl hP hS) (fun z => ih _ _ _ _ _ (h.2 (hiff.mp z)) _ c2 B H locs hl hP hS)
        | tableswitch df lo hi offs =>
          have h' := v_tsw h
          clear h
          obtain ⟨x, s9, rfl, h⟩ := h'
          obtain ⟨c1, c2⟩ := (Bool.and_eq_true _ _).mp hc
          obtain ⟨c3, c4, c5, c6⟩ := of_decide_eq_true c2
          dsimp only at c1 c3 c6 h
          have hgt := ackS_get _ 0 c1
          intro B H locs hl hP hS
          by_cases hin : x.toInt < lo ∨ hi < x.toInt
          · cases hg : pcO (code.drop b) with
            | none => rw [hg] at c6; cases c6
            | some g =>
              rw [hg] at c6
              refine lv_tableOut hx hb hd hin (Option.some.inj c6).symm ?_
              refine hnx _ _ _ _ (asw_none _ (fun q hq e => ?_) h) _ hg B H locs hl hP hS
              obtain ⟨i9, hi9⟩ := List.getElem?_of_mem hq
              obtain ⟨e1, -⟩ := hgt i9 q hi9
              have hlt := (List.getElem?_eq_some_iff.mp hi9).1
              rw [e] at hin
              rw [e1] at hin
              omega
          · have h1 : ¬ x.toInt < lo := fun z => hin (Or.inl z)
            have h2 : ¬ hi < x.toInt := fun z => hin (Or.inr z)
            have hlt : (x.toInt - lo).toNat < (tb a).length := by omega
            obtain ⟨q, hq⟩ : ∃ q, (tb a)[(x.toInt - lo).toNat]? = some q := ⟨_, List.getElem?_eq_getElem hlt⟩
            obtain ⟨e1, o, g, e2, e3, e4⟩ := hgt _ q hq
            rw [Nat.zero_add] at e1 e2
            have hxq : q.1 = x := by
              apply Int32.toInt_inj.mp
              rw [e1]
              omega
            refine lv_tableIn hx hb hd h1 h2 e2 e4 ?_
            refine hnx _ _ _ _ (asw_some _ _ q.2 (by rw [hq, ← hxq]) (fun j q' hj hq' e => ?_) h) _ e3 B H locs hl hP hS
            obtain ⟨e5, -⟩ := hgt j q' hq'
            rw [← e, ← hxq, e1] at e5
            omega
        | invokespecial x => cases hc
        | goto off =>
          obtain rfl : len = 3 := hlen
          obtain ⟨g, hg1, hg2⟩ := J off hc
          intro B H locs hl hP hS
          exact lv_goto hx hb hd hg1 (hg2 _ (v_goto h) B H locs hl hP hS)
        | ireturn =>
          obtain rfl : len = 1 := hlen
          have h' := v_iret h
          clear h
          obtain ⟨x, rfl, h⟩ := h'
          intro B H locs hl hP hS
          cases a with
          | zero => exact W.iret hx hb (hr.trans (of_decide_eq_true hc)) (fun t ht hW => ⟨⟨.int x, S, rfl, h.1 rfl, by rw [ht]; exact hP⟩, hS.F ht⟩) hS.2.2 hd hlocks
          | succ a => exact W.zret (ty := .boolean) hx hb (hr.trans (of_decide_eq_true hc)) (narrow_z (h.2 (Nat.succ_ne_zero _)).1) (fun t ht hW => ⟨⟨.int x, S, rfl, (h.2 (Nat.succ_ne_zero _)).2, by rw [ht]; exact hP⟩, hS.F ht⟩) hS.2.2 hd hlocks
        | lreturn =>
          obtain rfl : len = 1 := hlen
          have h' := v_lret h
          clear h
          obtain ⟨x, rfl, h⟩ := h'
          intro B H locs hl hP hS
          exact W.lret hx hb (hr.trans (of_decide_eq_true hc)) (fun t ht hW => ⟨⟨.long x, S, rfl, h, by rw [ht]; exact hP⟩, hS.F ht⟩) hS.2.2 hd hlocks
        | areturn =>
          obtain rfl : len = 1 := hlen
          have h' := v_aret h
          clear h
          obtain ⟨x, rfl, h⟩ := h'
          intro B H locs hl hP hS
          cases rt with
          | none => cases hc
          | some ty =>
            cases ty <;> first | exact W.aret hx hb hr (Or.inl ⟨_, rfl⟩) (Or.inr ⟨_, rfl⟩) (fun t ht hW => ⟨⟨.ref x, S, rfl, h, by rw [ht]; exact hP⟩, hS.F ht⟩) hS.2.2 hd hlocks | cases hc
        | return_ =>
          obtain rfl : len = 1 := hlen
          have h' := v_vret h
          clear h
          obtain ⟨rfl, h⟩ := h'
          intro B H locs hl hP hS
          exact W.vret hx hb (hr.trans (of_decide_eq_true hc)) (fun t ht hW => ⟨⟨.null, S, rfl, h, by rw [ht]; exact hP⟩, hS.F ht⟩) hS.2.2 hd hlocks
        | invokevirtual i =>
          obtain rfl : len = 3 := hlen
          have h' := v_inv h
          clear h
          dsimp only at h'
          cases h5 : Nat.ble 5000 a with
          | true =>
            rw [h5, cond_true] at h'
            have hc : cond (Nat.ble 5000 a) (decide (pcO t = some (pc + 3)) && ckp on (pc, .invokevirtual i, 3, cut, a, b, v, w)) _ = true := hc
            rw [h5] at hc
            obtain ⟨c1, c2⟩ := (Bool.and_eq_true _ _).mp hc
            exact hpx (pc, .invokevirtual i, 3, cut, a, b, v, w) ls st S (awp px tb (aW px MI tb d) Q nx t 0 false) hd rfl h5 c2 ((v_apw h').1 h5) (fun ls' st' S' z => ih 0 false ls' st' S' z _ (of_decide_eq_true c1))
          | false =>
          rw [h5, cond_false] at h'
          have hc : cond (Nat.ble 5000 a) _ (decide ((on, i, a) ∈ MT ∧ a < NM ∧ (MI a).2.2.2.2.2.1 ≠ 99 ∧ rk (MI a).2.2.2.2.2.1 = true ∧ b % 16 = (MI a).2.2.2.2.2.2.1 + 1 ∧ pcO t = some (pc + 3))) = true := hc
          rw [h5] at hc
          obtain ⟨c1, c2, c3, c4, c5, c6⟩ := of_decide_eq_true hc
          obtain ⟨b1, b2, h⟩ := v_acl h'
          dsimp only at b1 b2 h c1 c2 c3 c4 c5 c6
          · 
            have hM := IH _ _ _ _ c2 h
            cases d with
            | zero => exact h.elim
            | succ d' =>
              unfold aW at h
              have h9 := aif_out h
              unfold arc at h9
              split at h9
              · rename_i hz
                exact absurd (Nat.eq_of_beq_eq_true hz) c3
              · split at h9
                · rename_i b0 As hrev
                  obtain ⟨k1, -⟩ := aGK h9
                  have hst : st = As.reverse ++ .ref b0 :: st.drop (b % 16) := by
                    have e1 : st.take (b % 16) = As.reverse ++ [.ref b0] := by
                      have := congrArg List.reverse hrev
                      rw [List.reverse_reverse, List.reverse_cons] at this
                      exact this
                    have e2 := (List.take_append_drop (b % 16) st).symm
                    rw [e1, List.append_assoc] at e2
                    exact e2
                  have hal : As.length = (MI a).2.2.2.2.2.2.1 := by
                    have := congrArg List.length hrev
                    rw [List.length_reverse, List.length_take, Nat.min_eq_left b2, List.length_cons, c5] at this
                    omega
                  rw [hrev] at hM
                  intro B H locs hl hP hS
                  have hmp : st.map (atv ad) = (As.map (atv ad)).reverse ++ .ref (ad b0) :: (st.drop (b % 16)).map (atv ad) := by
                    conv => lhs; rw [hst]
                    rw [List.map_append, List.map_cons, List.map_reverse]
                    rfl
                  rw [hmp]
                  exact r_callV X hzo hR (hMI a c2) c3 (hMT _ c1) hal k1 c4 hM hd b1 hl hP hS (fun v S' H1 locs1 q1 q2 q3 => by
                    obtain ⟨w, hw, ew⟩ := aro_cat (ad := ad) q1
                    rw [ew, ← List.map_append]
                    exact ih _ _ _ _ _ hw _ c6 B H1 locs1 hl q2 q3)
                · exact h9.elim
        | invokestatic i =>
          obtain rfl : len = 3 := hlen
          have h' := v_ins h
          clear h
          dsimp only at h'
          cases h5 : Nat.ble 5000 a with
          | true =>
            rw [h5, cond_true] at h'
            have hc : cond (Nat.ble 5000 a) (decide (pcO t = some (pc + 3)) && ckp on (pc, .invokestatic i, 3, cut, a, b, v, w)) _ = true := hc
            rw [h5] at hc
            obtain ⟨c1, c2⟩ := (Bool.and_eq_true _ _).mp hc
            exact hpx (pc, .invokestatic i, 3, cut, a, b, v, w) ls st S (awp px tb (aW px MI tb d) Q nx t 0 false) hd rfl h5 c2 ((v_apw h').1 h5) (fun ls' st' S' z => ih 0 false ls' st' S' z _ (of_decide_eq_true c1))
          | false =>
          rw [h5, cond_false] at h'
          have hc : cond (Nat.ble 5000 a) _ (decide ((on, i, a) ∈ MT ∧ a < NM ∧ (MI a).2.2.2.2.2.1 = 99 ∧ b % 16 = (MI a).2.2.2.2.2.2.1 ∧ pcO t = some (pc + 3))) = true := hc
          rw [h5] at hc
          obtain ⟨c1, c2, c3, c4, c6⟩ := of_decide_eq_true hc
          obtain ⟨b1, b2, h⟩ := v_acl h'
          dsimp only at b1 b2 h
          have hM := IH _ _ _ _ c2 h
          have hmp : st.map (atv ad) = (((st.take (b % 16)).reverse).map (atv ad)).reverse ++ (st.drop (b % 16)).map (atv ad) := by
            rw [List.map_reverse, List.reverse_reverse, ← List.map_append, List.take_append_drop]
          intro B H locs hl hP hS
          rw [hmp]
          exact r_callS X hzo hR (hMI a c2) c3 (hMT _ c1) (by rw [List.length_reverse, List.length_take, Nat.min_eq_left b2, c4]) hM hd b1 hl hP hS (fun v S' H1 locs1 q1 q2 q3 => by
            obtain ⟨w, hw, ew⟩ := aro_cat (ad := ad) q1
            rw [ew, ← List.map_append]
            exact ih _ _ _ _ _ hw _ c6 B H1 locs1 hl q2 q3)
        | _ => cases hp
end
end
section
/-! a method of the small machine is one of the true machine -/
theorem apr_none (ad : Nat → Nat) : ∀ (k b : Nat), apr ad b (List.replicate k none) = []
  | 0, _ => rfl
  | k + 1, b => apr_none ad k (b + 1)
theorem apr_args (ad : Nat → Nat) (k : Nat) : ∀ (av : List Value) (b : Nat), apr ad b (alE av ++ List.replicate k none) = lv_args b (av.map (atv ad)) := by
  intro av
  induction av with
  | nil => intro b; exact apr_none ad k b
  | cons v t ih =>
    intro b
    show apr ad b (cond (acat2 v) (some v :: none :: alE t) (some v :: alE t) ++ _) = (b, atv ad v) :: lv_args (if (atv ad v).category = 2 then b + 2 else b + 1) (t.map (atv ad))
    rw [atv_cat]
    cases hc : acat2 v with
    | true =>
      rw [acat2_cat] at hc
      rw [if_pos (eq_of_beq hc)]
      show (b, atv ad v) :: apr ad (b + 2) (alE t ++ _) = _
      rw [ih]
    | false =>
      rw [acat2_cat] at hc
      rw [if_neg (fun z => by rw [z] at hc; cases hc)]
      show (b, atv ad v) :: apr ad (b + 1) (alE t ++ _) = _
      rw [ih]
theorem alE_len (ad : Nat → Nat) : ∀ (av : List Value), (lg_sl (av.map (atv ad))).length = (alE av).length := by
  intro av
  induction av with
  | nil => rfl
  | cons v t ih =>
    show ((if (atv ad v).category = 2 then [Slot.val (atv ad v), .second] else [.val (atv ad v)]) ++ lg_sl (t.map (atv ad))).length = (cond (acat2 v) (some v :: none :: alE t) (some v :: alE t)).length
    rw [atv_cat, List.length_append, ih]
    cases hc : acat2 v with
    | true =>
      rw [acat2_cat] at hc
      rw [if_pos (eq_of_beq hc)]
      simp
      omega
    | false =>
      rw [acat2_cat] at hc
      rw [if_neg (fun z => by rw [z] at hc; cases hc)]
      simp
      omega
theorem amk_get : ∀ (ls : aLs) (m i : Nat) (v : Value), (amk m ls)[i]? = some (some v) → ls[i]? = some (some v) := by
  intro ls
  induction ls with
  | nil => intro m i v h; exact h
  | cons x t ih =>
    intro m i v h
    cases i with
    | zero =>
      have h : some (cond (Nat.beq (m % 2) 1) x none) = some (some v) := h
      cases hb : Nat.beq (m % 2) 1 with
      | true => rw [hb] at h; exact h
      | false => rw [hb] at h; cases h
    | succ i => exact ih _ i v h
theorem amk_len : ∀ (ls : aLs) (m : Nat), (amk m ls).length = ls.length := by
  intro ls
  induction ls with
  | nil => intro m; rfl
  | cons x t ih => intro m; show (amk (m / 2) t).length + 1 = t.length + 1; rw [ih]
theorem aHas.mk {ad : Nat → Nat} {A : Array Slot} {nL : Nat} {ls : aLs} (m : Nat) (h : aHas ad A nL ls) : aHas ad A nL (amk m ls) := by
  refine ⟨by rw [amk_len]; exact h.1, h.2.1, h.2.2.1, fun q hq => h.2.2.2 q ?_⟩
  obtain ⟨i, v, h1, h2⟩ := (apr_mem _ _ _).mp hq
  exact (apr_mem _ _ _).mpr ⟨i, v, amk_get _ _ _ _ h1, h2⟩
theorem ackL_drop {tb : Nat → List (Int32 × Nat)} {ckp : Nat → aE → Bool} {MI : Nat → aMI} {NM : Nat} {MT : List (Nat × Nat × Nat)} {cc : ByteArray} {on : Nat} {rk : Nat → Bool} {rt : Option FieldType} {code : List aE} : ∀ (t : List aE) (q : Nat), ackL tb ckp MI NM MT cc on rk rt code t = true → ackL tb ckp MI NM MT cc on rk rt code (t.drop q) = true := by
  intro t
  induction t with
  | nil => intro q h; rw [List.drop_nil]; exact h
  | cons n t ih =>
    intro q h
    cases q with
    | zero => exact h
    | succ q =>
      obtain ⟨-, h⟩ := (Bool.and_eq_true _ _).mp h
      obtain ⟨-, h⟩ := (Bool.and_eq_true _ _).mp h
      obtain ⟨-, h⟩ := (Bool.and_eq_true _ _).mp h
      obtain ⟨-, h⟩ := (Bool.and_eq_true _ _).mp h
      exact ih q h
theorem a_met {l : Launch} {ad : Nat → Nat} {cy : Nat → ClassId} {D : va_G} {ids : List Nat} {A : Nat → Prop} {rk : Nat → Bool} {Zc : State → Prop} {MI : Nat → aMI} {px : aE → aLs → List Value → aS → aT} {tb : Nat → List (Int32 × Nat)} {ckp : Nat → aE → Bool} {NM : Nat} {MT : List (Nat × Nat × Nat)}
    (hzo : aZok A Zc) (hMI : ∀ j, j < NM → aMok (MI j)) (hMT : ∀ q ∈ MT, aMTok MI q) (hck : ∀ j, j < NM → ackL tb ckp MI NM MT (MI j).2.1 (MI j).2.2.2.2.1 rk (MI j).2.2.2.1 (MI j).2.2.2.2.2.2.2.2 (MI j).2.2.2.2.2.2.2.2 = true ∧ pcO (MI j).2.2.2.2.2.2.2.2 = some 0)
    (hn : ids.Nodup) (hA : ∀ i ∈ ids, A (ad i)) (hi : ∀ i j, i ∈ ids → j ∈ ids → ad i = ad j → i = j) (hreg : ∀ i k, akd i = k → rk k = true → i ∈ ids) (had : ∀ x y, 2000 ≤ x → x ≤ 2099 → 2000 ≤ y → y ≤ 2099 → ad x = ad y → x = y)
    (hpx : ∀ (p : Program) (e : Env) (s : State) (m : MethodId) (args : Array Value) (below : List Frame) (meth : Method) (c : Code) (cc : ByteArray) (nL on d : Nat) (Qs : State → Prop), aCx p s m args c cc nL on ad cy D ids A rk Zc → aPx px ckp p l e (aRm (d + 1)) s m args below meth c cc nL on ad cy D ids A Qs) :
    ∀ (d j : Nat) (av : List Value) (S : aS) (Q : Value → aS → Prop), j < NM → aW px MI tb d j av S Q → aMet l ad cy D ids A Zc MI d j av S Q := by
  intro d
  induction d with
  | zero => intro j av S Q _ h; exact h.elim
  | succ d ih =>
    intro j av S Q hj h
    unfold aW at h
    have hfit := Nat.le_of_ble_eq_true (aif_tr h)
    have h1 := arc_out (aif_out h)
    obtain ⟨m1, m2, m3, m4, m5, m6, m7, m8, m9⟩ := hMI j hj
    unfold aMet
    refine Met.ofW (cc := (MI j).2.1) (maxL := (MI j).2.2.1) (ret := (MI j).2.2.2.1) m1 rfl ?_
    intro p e s m args below meth c s₁ B hml hv
    obtain ⟨hargs, hP, hK, hN, hZ⟩ := hv
    subst hargs
    have hts := atoms_spec B.pre
    have X : aCx p s m (av.map (atv ad)).toArray c (MI j).2.1 (MI j).2.2.1 (MI j).2.2.2.2.1 ad cy D ids A rk Zc :=
      ⟨B.exec, B.bytes, hml, by rw [← m2]; exact findClass_of_methodNamed B.named, fun w hw => hts w (List.mem_cons_of_mem _ hw), hN, hK, hn, hA, hi, hreg, hZ, had⟩
    rw [lg_entry_eq]
    have hl := lv_entry (av.map (atv ad)) (n := (MI j).2.2.1) (by rw [alE_len]; exact hfit)
    have hl' : aHas ad ((lg_sl (av.map (atv ad)) ++ List.replicate ((MI j).2.2.1 - (lg_sl (av.map (atv ad))).length) Slot.unset).toArray) (MI j).2.2.1 (alc av (MI j).2.2.1) := by
      refine ⟨?_, ?_⟩
      · unfold alc
        rw [List.length_append, List.length_replicate]
        omega
      · unfold alc
        rw [apr_args]
        exact hl
    refine h1 (fun q ls st S => ∀ g, pcO ((MI j).2.2.2.2.2.2.2.2.drop q) = some g → aWg p l e (aRm (d + 1)) s m (av.map (atv ad)).toArray below meth c (MI j).2.2.1 ad cy D ids A (MQ below (aQc ad cy D ids A Q) (av.map (atv ad)).toArray s 0 0 A) g ls st S) ?_ 0 (hck j hj).2 _ s.heap [] hl' hP va_S.rf
    intro q ls st S hw g hg
    exact aw_ok X hzo rfl hMI hMT ih B.returns B.notSynchronized (hpx _ _ _ _ _ _ _ _ _ _ _ _ _ X) (fun q ls st S z g hg B H locs hl => z g hg B H locs (aHas.mk _ hl)) _ (ackL_drop _ q (hck j hj).1) 0 true ls st S hw g hg
end
section
/-! steps that are calls of Math.max and Math.min -/
def pxm (e : aE) (ls : aLs) (st : List Value) (S : aS) : aT := pII st fun x y r => cond (Nat.beq e.2.2.2.2.1 5000) (aok ls (.int (if x < y then y else x) :: r) S) (cond (Nat.beq e.2.2.2.2.1 5001) (aok ls (.int (if y < x then y else x) :: r) S) none)
/-- a call's rest: what lies below the arguments is small -/
def acr (st : List Value) (k : Nat) : Bool := Nat.ble (acs (st.drop k)) 100
def pxM (e : aE) (ls : aLs) (st : List Value) (S : aS) : aT := match e.2.1 with
  | .invokestatic _ => cond (acr st 2) (pxm e ls st S) none
  | _ => none
theorem lmax_0 : Cond.methodLink (aCN 0) 48 Lib.Math.max.name ∈ aWS := aW_t 812 (by decide +kernel) (by decide +kernel)
theorem lmax_1 : Cond.methodLink (aCN 4) 50 Lib.Math.max.name ∈ aWS := aW_t 739 (by decide +kernel) (by decide +kernel)
theorem lmax_2 : Cond.methodLink (aCN 5) 209 Lib.Math.max.name ∈ aWS := aW_t 612 (by decide +kernel) (by decide +kernel)
theorem lmax_3 : Cond.methodLink (aCN 6) 107 Lib.Math.max.name ∈ aWS := aW_t 813 (by decide +kernel) (by decide +kernel)
theorem lmax_4 : Cond.methodLink (aCN 11) 360 Lib.Math.max.name ∈ aWS := aW_t 1660 (by decide +kernel) (by decide +kernel)
def lmaxT : List (Nat × Nat) := [(0, 48), (4, 50), (5, 209), (6, 107), (11, 360)]
theorem lmaxT_ok : ∀ q ∈ lmaxT, Cond.methodLink (aCN q.1) q.2 Lib.Math.max.name ∈ aWS := List.forall_mem_cons.mpr ⟨lmax_0, List.forall_mem_cons.mpr ⟨lmax_1, List.forall_mem_cons.mpr ⟨lmax_2, List.forall_mem_cons.mpr ⟨lmax_3, List.forall_mem_cons.mpr ⟨lmax_4, fun _ h => absurd h List.not_mem_nil⟩⟩⟩⟩⟩
theorem lmin_0 : Cond.methodLink (aCN 0) 42 Lib.Math.min.name ∈ aWS := aW_t 811 (by decide +kernel) (by decide +kernel)
theorem lmin_1 : Cond.methodLink (aCN 4) 44 Lib.Math.min.name ∈ aWS := aW_t 736 (by decide +kernel) (by decide +kernel)
theorem lmin_2 : Cond.methodLink (aCN 6) 115 Lib.Math.min.name ∈ aWS := aW_t 871 (by decide +kernel) (by decide +kernel)
theorem lmin_3 : Cond.methodLink (aCN 8) 85 Lib.Math.min.name ∈ aWS := aW_t 906 (by decide +kernel) (by decide +kernel)
theorem lmin_4 : Cond.methodLink (aCN 11) 400 Lib.Math.min.name ∈ aWS := aW_t 1716 (by decide +kernel) (by decide +kernel)
def lminT : List (Nat × Nat) := [(0, 42), (4, 44), (6, 115), (8, 85), (11, 400)]
theorem lminT_ok : ∀ q ∈ lminT, Cond.methodLink (aCN q.1) q.2 Lib.Math.min.name ∈ aWS := List.forall_mem_cons.mpr ⟨lmin_0, List.forall_mem_cons.mpr ⟨lmin_1, List.forall_mem_cons.mpr ⟨lmin_2, List.forall_mem_cons.mpr ⟨lmin_3, List.forall_mem_cons.mpr ⟨lmin_4, fun _ h => absurd h List.not_mem_nil⟩⟩⟩⟩⟩
def ckpM (on : Nat) (n : aE) : Bool := match n.2.1 with
  | .invokestatic i => decide ((n.2.2.2.2.1 = 5000 ∧ (on, i) ∈ lmaxT) ∨ (n.2.2.2.2.1 = 5001 ∧ (on, i) ∈ lminT))
  | _ => false
section
variable {p : Program} {l : Launch} {e : Env} {s : State} {m : MethodId} {args : Array Value} {below : List Frame} {meth : Method} {c : Code} {cc : ByteArray} {nL on : Nat} {ad : Nat → Nat} {cy : Nat → ClassId} {D : va_G} {ids : List Nat} {A : Nat → Prop} {rk : Nat → Bool} {Zc : State → Prop} {Qs : State → Prop} {d : Nat}
theorem pxm_ok (X : aCx p s m args c cc nL on ad cy D ids A rk Zc) {pc i len cut a b : Nat} {v : Int32} {w : Int64} {ls : aLs} {st : List Value} {S : aS} {Z : aLs → List Value → aS → Prop} (hd : decode cc pc = .ok (.invokestatic i, len)) (hlen : len = 3) (hk : (a = 5000 ∧ (on, i) ∈ lmaxT) ∨ (a = 5001 ∧ (on, i) ∈ lminT)) (hs : acs (st.drop 2) ≤ 100)
    (h : aTP (pxm (pc, .invokestatic i, len, cut, a, b, v, w) ls st S) Z) (hgo : ∀ ls' st' S', Z ls' st' S' → aWg p l e (aRm (d + 1)) s m args below meth c nL ad cy D ids A Qs (pc + len) ls' st' S') : aWg p l e (aRm (d + 1)) s m args below meth c nL ad cy D ids A Qs pc ls st S := by
  have hx := X.1
  have hb := X.2.1
  have hml := X.2.2.1
  have hown := X.2.2.2.1
  have hts := X.2.2.2.2.1
  subst hlen
  obtain ⟨x, y, r, rfl, h⟩ := pII_inv h
  intro B H locs hl hP hS
  have hlo : ((r.map (atv ad)).map fun v => v.category).sum + 13 ≤ (aRm (d + 1)).locals := by
    rw [acs_map]
    have : acs r ≤ 100 := hs
    show acs r + 13 ≤ 120 * (d + 1)
    omega
  have hfr : 1 ≤ (aRm (d + 1)).frames := by show 1 ≤ d + 1; omega
  have hB : c.maxLocals = B.size := hml.trans hl.2.1.symm
  rcases hk with ⟨rfl, hk⟩ | ⟨rfl, hk⟩
  · exact va_mmax hx hb hB hown (hts _ (lmaxT_ok _ hk)) (hts _ aM_max_s) (hts _ aM_i) (hts _ aM_max_c) hfr hlo (Nat.zero_le _) (Nat.zero_le _) hd (hgo _ _ _ h B H locs hl hP hS)
  · exact va_mmin hx hb hB hown (hts _ (lminT_ok _ hk)) (hts _ aM_min_s) (hts _ aM_i) (hts _ aM_min_c) hfr hlo (Nat.zero_le _) (Nat.zero_le _) hd (hgo _ _ _ h B H locs hl hP hS)
theorem pxM_ok (X : aCx p s m args c cc nL on ad cy D ids A rk Zc) : aPx pxM ckpM p l e (aRm (d + 1)) s m args below meth c cc nL on ad cy D ids A Qs := by
  intro n ls st S Z hd hlen h5 hk h hgo
  obtain ⟨pc, i, len, cut, a, b, v, w⟩ := n
  dsimp only at hd hlen h5 hgo ⊢
  cases i with
  | invokestatic i =>
    have hk := of_decide_eq_true hk
    have h : aTP (cond (acr st 2) (pxm (pc, .invokestatic i, len, cut, a, b, v, w) ls st S) none) Z := h
    cases hc : acr st 2 with
    | true => rw [hc] at h; exact pxm_ok X hd hlen hk (Nat.le_of_ble_eq_true hc) h hgo
    | false => rw [hc] at h; exact h.elim
  | _ => cases hk
end
end
section
/-! the reference's methods as rows of the small machine, by a program out of its bytecode -/
def rkM (k : Nat) : Bool := Nat.beq k 11 || (Nat.ble 30 k && Nat.ble k 39)
def kM0 : List aE := [(0, .aload_n 0, 1, 0, 0, 0, 0, 0),
  (1, .getfield 135, 3, 0, 11, 0, 0, 0),
  (4, .ireturn, 1, 0, 0, 0, 0, 0)]
def lM0 (q : Nat) : Nat := 0
def kM1 : List aE := [(0, .iload_n 0, 1, 0, 0, 0, 0, 0),
  (1, .iload_n 1, 1, 0, 0, 0, 0, 0),
  (2, .if_icmp .lt 12, 3, 0, 5, 0, 0, 0),
  (5, .iload_n 0, 1, 0, 0, 0, 0, 0),
  (6, .iload_n 2, 1, 0, 0, 0, 0, 0),
  (7, .if_icmp .gt 7, 3, 0, 2, 0, 0, 0),
  (10, .iconst 1, 1, 0, 0, 0, 1, 0),
  (11, .goto 4, 3, 0, 1, 0, 0, 0),
  (14, .iconst 0, 1, 0, 0, 0, 0, 0),
  (15, .ireturn, 1, 0, 1, 0, 0, 0)]
def lM1 (q : Nat) : Nat := 0
def kM2 : List aE := [(0, .iload_n 0, 1, 0, 0, 0, 0, 0),
  (1, .iload_n 1, 1, 0, 0, 0, 0, 0),
  (2, .if_icmp .ge 7, 3, 0, 2, 0, 0, 0),
  (5, .iload_n 1, 1, 0, 0, 0, 0, 0),
  (6, .goto 13, 3, 0, 6, 0, 0, 0),
  (9, .iload_n 0, 1, 0, 0, 0, 0, 0),
  (10, .iload_n 2, 1, 0, 0, 0, 0, 0),
  (11, .if_icmp .le 7, 3, 0, 2, 0, 0, 0),
  (14, .iload_n 2, 1, 0, 0, 0, 0, 0),
  (15, .goto 4, 3, 0, 1, 0, 0, 0),
  (18, .iload_n 0, 1, 0, 0, 0, 0, 0),
  (19, .ireturn, 1, 0, 0, 0, 0, 0)]
def lM2 (q : Nat) : Nat := 0
def kM3 : List aE := [(0, .iconst 0, 1, 0, 0, 0, 0, 0),
  (1, .istore_n 1, 1, 0, 0, 0, 0, 0),
  (2, .iconst 0, 1, 0, 0, 0, 0, 0),
  (3, .istore_n 2, 1, 0, 0, 0, 0, 0),
  (4, .iload_n 2, 1, 5, 0, 0, 0, 0),
  (5, .bipush 12, 2, 0, 0, 0, 12, 0),
  (7, .if_icmp .ge 17, 3, 0, 10, 0, 0, 0),
  (10, .iload_n 1, 1, 0, 0, 0, 0, 0),
  (11, .iload_n 0, 1, 0, 0, 0, 0, 0),
  (12, .iload_n 2, 1, 0, 0, 0, 0, 0),
  (13, .ishr, 1, 0, 0, 0, 0, 0),
  (14, .iconst 1, 1, 0, 0, 0, 1, 0),
  (15, .iand, 1, 0, 0, 0, 0, 0),
  (16, .iadd, 1, 0, 0, 0, 0, 0),
  (17, .istore_n 1, 1, 0, 0, 0, 0, 0),
  (18, .iinc 2 1, 3, 0, 0, 0, 1, 0),
  (21, .goto (-17), 3, 0, 4, 1, 0, 0),
  (24, .iload_n 1, 1, 0, 0, 0, 0, 0),
  (25, .ireturn, 1, 0, 0, 0, 0, 0)]
def lM3 (q : Nat) : Nat := 7
def kM4 : List aE := [(0, .aload_n 0, 1, 0, 0, 0, 0, 0),
  (1, .iconst 0, 1, 0, 0, 0, 0, 0),
  (2, .putfield 135, 3, 0, 11, 0, 0, 0),
  (5, .iconst 0, 1, 0, 0, 0, 0, 0),
  (6, .istore 7, 2, 0, 0, 0, 0, 0),
  (8, .iload 7, 2, 6, 0, 0, 0, 0),
  (10, .bipush 24, 2, 0, 0, 0, 24, 0),
  (12, .if_icmp .ge 108, 3, 0, 52, 0, 0, 0),
  (15, .iload 7, 2, 0, 0, 0, 0, 0),
  (17, .bipush 8, 2, 0, 0, 0, 8, 0),
  (19, .if_icmp .ge 7, 3, 0, 2, 0, 0, 0),
  (22, .lload_n 1, 1, 0, 0, 0, 0, 0),
  (23, .goto 16, 3, 0, 19, 1, 0, 0),
  (26, .iload 7, 2, 0, 0, 0, 0, 0),
  (28, .bipush 16, 2, 0, 0, 0, 16, 0),
  (30, .if_icmp .ge 7, 3, 0, 2, 0, 0, 0),
  (33, .lload_n 3, 1, 0, 0, 0, 0, 0),
  (34, .goto 5, 3, 0, 19, 1, 0, 0),
  (37, .lload 5, 2, 0, 0, 0, 0, 0),
  (39, .lstore 8, 2, 20, 0, 0, 0, 0),
  (41, .lload 8, 2, 0, 0, 0, 0, 0),
  (43, .bipush 56, 2, 0, 0, 0, 56, 0),
  (45, .bipush 8, 2, 0, 0, 0, 8, 0),
  (47, .iload 7, 2, 0, 0, 0, 0, 0),
  (49, .bipush 7, 2, 0, 0, 0, 7, 0),
  (51, .iand, 1, 0, 0, 0, 0, 0),
  (52, .imul, 1, 0, 0, 0, 0, 0),
  (53, .isub, 1, 0, 0, 0, 0, 0),
  (54, .lushr, 1, 0, 0, 0, 0, 0),
  (55, .ldc2_w 139, 3, 0, 0, 0, 0, 255),
  (58, .land, 1, 0, 0, 0, 0, 0),
  (59, .l2i, 1, 0, 0, 0, 0, 0),
  (60, .istore 10, 2, 0, 0, 0, 0, 0),
  (62, .aload_n 0, 1, 0, 0, 0, 0, 0),
  (63, .getfield 141, 3, 0, 11, 1, 0, 0),
  (66, .sipush 1000, 3, 0, 0, 0, 1000, 0),
  (69, .if_icmp .ge 45, 3, 0, 21, 0, 0, 0),
  (72, .iload 10, 2, 0, 0, 0, 0, 0),
  (74, .bipush 10, 2, 0, 0, 0, 10, 0),
  (76, .if_icmp .eq 17, 3, 0, 6, 0, 0, 0),
  (79, .iload 10, 2, 0, 0, 0, 0, 0),
  (81, .bipush 32, 2, 0, 0, 0, 32, 0),
  (83, .if_icmp .lt 31, 3, 0, 15, 0, 0, 0),
  (86, .iload 10, 2, 0, 0, 0, 0, 0),
  (88, .bipush 126, 2, 0, 0, 0, 126, 0),
  (90, .if_icmp .gt 24, 3, 0, 12, 0, 0, 0),
  (93, .aload_n 0, 1, 0, 0, 0, 0, 0),
  (94, .getfield 7, 3, 0, 11, 2, 0, 0),
  (97, .aload_n 0, 1, 0, 0, 0, 0, 0),
  (98, .getfield 141, 3, 0, 11, 1, 0, 0),
  (101, .iload 10, 2, 0, 0, 0, 0, 0),
  (103, .iastore, 1, 0, 30, 0, 0, 0),
  (104, .aload_n 0, 1, 0, 0, 0, 0, 0),
  (105, .dup, 1, 0, 0, 0, 0, 0),
  (106, .getfield 141, 3, 0, 11, 1, 0, 0),
  (109, .iconst 1, 1, 0, 0, 0, 1, 0),
  (110, .iadd, 1, 0, 0, 0, 0, 0),
  (111, .putfield 141, 3, 0, 11, 1, 0, 0),
  (114, .iinc 7 1, 3, 0, 0, 0, 1, 0),
  (117, .goto (-109), 3, 0, 5, 1, 0, 0),
  (120, .aload_n 0, 1, 0, 0, 0, 0, 0),
  (121, .getfield 141, 3, 0, 11, 1, 0, 0),
  (124, .ireturn, 1, 0, 0, 0, 0, 0)]
def lM4 (q : Nat) : Nat := cond (Nat.ble q 5) (171) (171)
def kM5 : List aE := [(0, .iload_n 1, 1, 0, 0, 0, 0, 0),
  (1, .aload_n 0, 1, 0, 0, 0, 0, 0),
  (2, .getfield 144, 3, 0, 11, 3, 0, 0),
  (5, .if_icmp .ge 12, 3, 0, 5, 0, 0, 0),
  (8, .aload_n 0, 1, 0, 0, 0, 0, 0),
  (9, .getfield 7, 3, 0, 11, 2, 0, 0),
  (12, .iload_n 1, 1, 0, 0, 0, 0, 0),
  (13, .iaload, 1, 0, 30, 0, 0, 0),
  (14, .goto 4, 3, 0, 1, 0, 0, 0),
  (17, .iconst 0, 1, 0, 0, 0, 0, 0),
  (18, .ireturn, 1, 0, 0, 0, 0, 0)]
def lM5 (q : Nat) : Nat := 0
def kM6 : List aE := [(0, .aload_n 0, 1, 1, 0, 0, 0, 0),
  (1, .getfield 147, 3, 0, 11, 4, 0, 0),
  (4, .aload_n 0, 1, 0, 0, 0, 0, 0),
  (5, .getfield 144, 3, 0, 11, 3, 0, 0),
  (8, .if_icmp .ge 44, 3, 0, 26, 1, 0, 0),
  (11, .aload_n 0, 1, 0, 0, 0, 0, 0),
  (12, .getfield 7, 3, 0, 11, 2, 0, 0),
  (15, .aload_n 0, 1, 0, 0, 0, 0, 0),
  (16, .getfield 147, 3, 0, 11, 4, 0, 0),
  (19, .iaload, 1, 0, 30, 0, 0, 0),
  (20, .bipush 32, 2, 0, 0, 0, 32, 0),
  (22, .if_icmp .eq 17, 3, 0, 7, 0, 0, 0),
  (25, .aload_n 0, 1, 0, 0, 0, 0, 0),
  (26, .getfield 7, 3, 0, 11, 2, 0, 0),
  (29, .aload_n 0, 1, 0, 0, 0, 0, 0),
  (30, .getfield 147, 3, 0, 11, 4, 0, 0),
  (33, .iaload, 1, 0, 30, 0, 0, 0),
  (34, .bipush 10, 2, 0, 0, 0, 10, 0),
  (36, .if_icmp .ne 16, 3, 0, 26, 1, 0, 0),
  (39, .aload_n 0, 1, 0, 0, 0, 0, 0),
  (40, .dup, 1, 0, 0, 0, 0, 0),
  (41, .getfield 147, 3, 0, 11, 4, 0, 0),
  (44, .iconst 1, 1, 0, 0, 0, 1, 0),
  (45, .iadd, 1, 0, 0, 0, 0, 0),
  (46, .putfield 147, 3, 0, 11, 4, 0, 0),
  (49, .goto (-49), 3, 0, 0, 1, 0, 0),
  (52, .aload_n 0, 1, 27, 0, 0, 0, 0),
  (53, .aload_n 0, 1, 0, 0, 0, 0, 0),
  (54, .getfield 147, 3, 0, 11, 4, 0, 0),
  (57, .putfield 150, 3, 0, 11, 5, 0, 0),
  (60, .aload_n 0, 1, 0, 0, 0, 0, 0),
  (61, .lconst 0, 1, 0, 0, 0, 0, 0),
  (62, .putfield 153, 3, 0, 11, 7, 0, 0),
  (65, .aload_n 0, 1, 0, 0, 0, 0, 0),
  (66, .iconst 0, 1, 0, 0, 0, 0, 0),
  (67, .putfield 157, 3, 0, 11, 8, 0, 0),
  (70, .aload_n 0, 1, 0, 0, 0, 0, 0),
  (71, .getfield 147, 3, 0, 11, 4, 0, 0),
  (74, .aload_n 0, 1, 0, 0, 0, 0, 0),
  (75, .getfield 144, 3, 0, 11, 3, 0, 0),
  (78, .if_icmp .ne 9, 3, 0, 4, 0, 0, 0),
  (81, .aload_n 0, 1, 0, 0, 0, 0, 0),
  (82, .iconst 0, 1, 0, 0, 0, 0, 0),
  (83, .putfield 160, 3, 0, 11, 6, 0, 0),
  (86, .return_, 1, 0, 0, 0, 0, 0),
  (87, .aload_n 0, 1, 0, 0, 0, 0, 0),
  (88, .getfield 7, 3, 0, 11, 2, 0, 0),
  (91, .aload_n 0, 1, 0, 0, 0, 0, 0),
  (92, .getfield 147, 3, 0, 11, 4, 0, 0),
  (95, .iaload, 1, 0, 30, 0, 0, 0),
  (96, .istore_n 1, 1, 0, 0, 0, 0, 0),
  (97, .iload_n 1, 1, 0, 0, 0, 0, 0),
  (98, .bipush 97, 2, 0, 0, 0, 97, 0),
  (100, .if_icmp .lt 112, 3, 0, 56, 0, 0, 0),
  (103, .iload_n 1, 1, 0, 0, 0, 0, 0),
  (104, .bipush 122, 2, 0, 0, 0, 122, 0),
  (106, .if_icmp .gt 106, 3, 0, 53, 0, 0, 0),
  (109, .aload_n 0, 1, 58, 0, 0, 0, 0),
  (110, .aload_n 0, 1, 0, 0, 0, 0, 0),
  (111, .getfield 147, 3, 0, 11, 4, 0, 0),
  (114, .invokevirtual 163, 3, 0, 5, 18, 0, 0),
  (117, .bipush 97, 2, 0, 0, 0, 97, 0),
  (119, .if_icmp .lt 69, 3, 0, 97, 1, 0, 0),
  (122, .aload_n 0, 1, 0, 0, 0, 0, 0),
  (123, .aload_n 0, 1, 0, 0, 0, 0, 0),
  (124, .getfield 147, 3, 0, 11, 4, 0, 0),
  (127, .invokevirtual 163, 3, 0, 5, 18, 0, 0),
  (130, .bipush 122, 2, 0, 0, 0, 122, 0),
  (132, .if_icmp .gt 56, 3, 0, 97, 1, 0, 0),
  (135, .aload_n 0, 1, 0, 0, 0, 0, 0),
  (136, .getfield 147, 3, 0, 11, 4, 0, 0),
  (139, .aload_n 0, 1, 0, 0, 0, 0, 0),
  (140, .getfield 150, 3, 0, 11, 5, 0, 0),
  (143, .isub, 1, 0, 0, 0, 0, 0),
  (144, .bipush 8, 2, 0, 0, 0, 8, 0),
  (146, .if_icmp .ge 29, 3, 0, 14, 0, 0, 0),
  (149, .aload_n 0, 1, 0, 0, 0, 0, 0),
  (150, .aload_n 0, 1, 0, 0, 0, 0, 0),
  (151, .getfield 153, 3, 0, 11, 7, 0, 0),
  (154, .ldc2_w 167, 3, 0, 0, 0, 0, 27),
  (157, .lmul, 1, 0, 0, 0, 0, 0),
  (158, .aload_n 0, 1, 0, 0, 0, 0, 0),
  (159, .aload_n 0, 1, 0, 0, 0, 0, 0),
  (160, .getfield 147, 3, 0, 11, 4, 0, 0),
  (163, .invokevirtual 163, 3, 0, 5, 18, 0, 0),
  (166, .i2l, 1, 0, 0, 0, 0, 0),
  (167, .ladd, 1, 0, 0, 0, 0, 0),
  (168, .ldc2_w 169, 3, 0, 0, 0, 0, 96),
  (171, .lsub, 1, 0, 0, 0, 0, 0),
  (172, .putfield 153, 3, 0, 11, 7, 0, 0),
  (175, .aload_n 0, 1, 0, 0, 0, 0, 0),
  (176, .dup, 1, 0, 0, 0, 0, 0),
  (177, .getfield 147, 3, 0, 11, 4, 0, 0),
  (180, .iconst 1, 1, 0, 0, 0, 1, 0),
  (181, .iadd, 1, 0, 0, 0, 0, 0),
  (182, .putfield 147, 3, 0, 11, 4, 0, 0),
  (185, .goto (-76), 3, 0, 57, 1, 0, 0),
  (188, .aload_n 0, 1, 98, 0, 0, 0, 0),
  (189, .aload_n 0, 1, 0, 0, 0, 0, 0),
  (190, .getfield 147, 3, 0, 11, 4, 0, 0),
  (193, .aload_n 0, 1, 0, 0, 0, 0, 0),
  (194, .getfield 150, 3, 0, 11, 5, 0, 0),
  (197, .isub, 1, 0, 0, 0, 0, 0),
  (198, .bipush 8, 2, 0, 0, 0, 8, 0),
  (200, .if_icmp .le 7, 3, 0, 2, 0, 0, 0),
  (203, .iconst 4, 1, 0, 0, 0, 4, 0),
  (204, .goto 4, 3, 0, 1, 0, 0, 0),
  (207, .iconst 1, 1, 0, 0, 0, 1, 0),
  (208, .putfield 160, 3, 0, 11, 6, 0, 0),
  (211, .return_, 1, 0, 0, 0, 0, 0),
  (212, .iload_n 1, 1, 0, 0, 0, 0, 0),
  (213, .bipush 48, 2, 0, 0, 0, 48, 0),
  (215, .if_icmp .lt 107, 3, 0, 168, 1, 0, 0),
  (218, .iload_n 1, 1, 0, 0, 0, 0, 0),
  (219, .bipush 57, 2, 0, 0, 0, 57, 0),
  (221, .if_icmp .gt 101, 3, 0, 168, 1, 0, 0),
  (224, .aload_n 0, 1, 117, 0, 0, 0, 0),
  (225, .aload_n 0, 1, 0, 0, 0, 0, 0),
  (226, .getfield 147, 3, 0, 11, 4, 0, 0),
  (229, .invokevirtual 163, 3, 0, 5, 18, 0, 0),
  (232, .bipush 48, 2, 0, 0, 0, 48, 0),
  (234, .if_icmp .lt 65, 3, 0, 155, 1, 0, 0),
  (237, .aload_n 0, 1, 0, 0, 0, 0, 0),
  (238, .aload_n 0, 1, 0, 0, 0, 0, 0),
  (239, .getfield 147, 3, 0, 11, 4, 0, 0),
  (242, .invokevirtual 163, 3, 0, 5, 18, 0, 0),
  (245, .bipush 57, 2, 0, 0, 0, 57, 0),
  (247, .if_icmp .gt 52, 3, 0, 155, 1, 0, 0),
  (250, .aload_n 0, 1, 0, 0, 0, 0, 0),
  (251, .getfield 147, 3, 0, 11, 4, 0, 0),
  (254, .aload_n 0, 1, 0, 0, 0, 0, 0),
  (255, .getfield 150, 3, 0, 11, 5, 0, 0),
  (258, .isub, 1, 0, 0, 0, 0, 0),
  (259, .iconst 4, 1, 0, 0, 0, 4, 0),
  (260, .if_icmp .ge 26, 3, 0, 13, 0, 0, 0),
  (263, .aload_n 0, 1, 0, 0, 0, 0, 0),
  (264, .aload_n 0, 1, 0, 0, 0, 0, 0),
  (265, .getfield 157, 3, 0, 11, 8, 0, 0),
  (268, .bipush 10, 2, 0, 0, 0, 10, 0),
  (270, .imul, 1, 0, 0, 0, 0, 0),
  (271, .aload_n 0, 1, 0, 0, 0, 0, 0),
  (272, .aload_n 0, 1, 0, 0, 0, 0, 0),
  (273, .getfield 147, 3, 0, 11, 4, 0, 0),
  (276, .invokevirtual 163, 3, 0, 5, 18, 0, 0),
  (279, .iadd, 1, 0, 0, 0, 0, 0),
  (280, .bipush 48, 2, 0, 0, 0, 48, 0),
  (282, .isub, 1, 0, 0, 0, 0, 0),
  (283, .putfield 157, 3, 0, 11, 8, 0, 0),
  (286, .aload_n 0, 1, 0, 0, 0, 0, 0),
  (287, .dup, 1, 0, 0, 0, 0, 0),
  (288, .getfield 147, 3, 0, 11, 4, 0, 0),
  (291, .iconst 1, 1, 0, 0, 0, 1, 0),
  (292, .iadd, 1, 0, 0, 0, 0, 0),
  (293, .putfield 147, 3, 0, 11, 4, 0, 0),
  (296, .goto (-72), 3, 0, 116, 1, 0, 0),
  (299, .aload_n 0, 1, 156, 0, 0, 0, 0),
  (300, .aload_n 0, 1, 0, 0, 0, 0, 0),
  (301, .getfield 147, 3, 0, 11, 4, 0, 0),
  (304, .aload_n 0, 1, 0, 0, 0, 0, 0),
  (305, .getfield 150, 3, 0, 11, 5, 0, 0),
  (308, .isub, 1, 0, 0, 0, 0, 0),
  (309, .iconst 4, 1, 0, 0, 0, 4, 0),
  (310, .if_icmp .le 7, 3, 0, 2, 0, 0, 0),
  (313, .iconst 4, 1, 0, 0, 0, 4, 0),
  (314, .goto 4, 3, 0, 1, 0, 0, 0),
  (317, .iconst 2, 1, 0, 0, 0, 2, 0),
  (318, .putfield 160, 3, 0, 11, 6, 0, 0),
  (321, .return_, 1, 0, 0, 0, 0, 0),
  (322, .aload_n 0, 1, 169, 0, 0, 0, 0),
  (323, .dup, 1, 0, 0, 0, 0, 0),
  (324, .getfield 147, 3, 0, 11, 4, 0, 0),
  (327, .iconst 1, 1, 0, 0, 0, 1, 0),
  (328, .iadd, 1, 0, 0, 0, 0, 0),
  (329, .putfield 147, 3, 0, 11, 4, 0, 0),
  (332, .aload_n 0, 1, 0, 0, 0, 0, 0),
  (333, .iload_n 1, 1, 0, 0, 0, 0, 0),
  (334, .bipush 40, 2, 0, 0, 0, 40, 0),
  (336, .if_icmp .lt 9, 3, 0, 181, 1, 0, 0),
  (339, .iload_n 1, 1, 0, 0, 0, 0, 0),
  (340, .bipush 43, 2, 0, 0, 0, 43, 0),
  (342, .if_icmp .le 21, 3, 0, 9, 0, 0, 0),
  (345, .iload_n 1, 1, 182, 0, 0, 0, 0),
  (346, .bipush 45, 2, 0, 0, 0, 45, 0),
  (348, .if_icmp .eq 15, 3, 0, 6, 0, 0, 0),
  (351, .iload_n 1, 1, 0, 0, 0, 0, 0),
  (352, .bipush 59, 2, 0, 0, 0, 59, 0),
  (354, .if_icmp .lt 13, 3, 0, 5, 0, 0, 0),
  (357, .iload_n 1, 1, 0, 0, 0, 0, 0),
  (358, .bipush 61, 2, 0, 0, 0, 61, 0),
  (360, .if_icmp .gt 7, 3, 0, 2, 0, 0, 0),
  (363, .iconst 3, 1, 0, 0, 0, 3, 0),
  (364, .goto 4, 3, 0, 1, 0, 0, 0),
  (367, .iconst 4, 1, 0, 0, 0, 4, 0),
  (368, .putfield 160, 3, 0, 11, 6, 0, 0),
  (371, .return_, 1, 0, 0, 0, 0, 0)]
def lM6 (q : Nat) : Nat := cond (Nat.ble q 97) (cond (Nat.ble q 26) (cond (Nat.ble q 0) (1) (1)) (cond (Nat.ble q 57) (1) (1))) (cond (Nat.ble q 155) (cond (Nat.ble q 116) (1) (1)) (cond (Nat.ble q 168) (3) (2)))
def kM7 : List aE := [(0, .aload_n 0, 1, 0, 0, 0, 0, 0),
  (1, .getfield 160, 3, 0, 11, 6, 0, 0),
  (4, .iconst 1, 1, 0, 0, 0, 1, 0),
  (5, .if_icmp .ne 16, 3, 0, 7, 0, 0, 0),
  (8, .aload_n 0, 1, 0, 0, 0, 0, 0),
  (9, .getfield 153, 3, 0, 11, 7, 0, 0),
  (12, .lload_n 1, 1, 0, 0, 0, 0, 0),
  (13, .lcmp, 1, 0, 0, 0, 0, 0),
  (14, .ifCond .ne 7, 3, 0, 2, 0, 0, 0),
  (17, .iconst 1, 1, 0, 0, 0, 1, 0),
  (18, .goto 4, 3, 0, 1, 0, 0, 0),
  (21, .iconst 0, 1, 0, 0, 0, 0, 0),
  (22, .ireturn, 1, 0, 1, 0, 0, 0)]
def lM7 (q : Nat) : Nat := 0
def kM8 : List aE := [(0, .aload_n 0, 1, 0, 0, 0, 0, 0),
  (1, .getfield 160, 3, 0, 11, 6, 0, 0),
  (4, .iconst 3, 1, 0, 0, 0, 3, 0),
  (5, .if_icmp .ne 20, 3, 0, 9, 0, 0, 0),
  (8, .aload_n 0, 1, 0, 0, 0, 0, 0),
  (9, .getfield 7, 3, 0, 11, 2, 0, 0),
  (12, .aload_n 0, 1, 0, 0, 0, 0, 0),
  (13, .getfield 150, 3, 0, 11, 5, 0, 0),
  (16, .iaload, 1, 0, 30, 0, 0, 0),
  (17, .iload_n 1, 1, 0, 0, 0, 0, 0),
  (18, .if_icmp .ne 7, 3, 0, 2, 0, 0, 0),
  (21, .iconst 1, 1, 0, 0, 0, 1, 0),
  (22, .goto 4, 3, 0, 1, 0, 0, 0),
  (25, .iconst 0, 1, 0, 0, 0, 0, 0),
  (26, .ireturn, 1, 0, 1, 0, 0, 0)]
def lM8 (q : Nat) : Nat := 0
def kM9 : List aE := [(0, .aload_n 0, 1, 0, 0, 0, 0, 0),
  (1, .iload_n 1, 1, 0, 0, 0, 0, 0),
  (2, .bipush 16, 2, 0, 0, 0, 16, 0),
  (4, .aload_n 0, 1, 0, 0, 0, 0, 0),
  (5, .getfield 150, 3, 0, 11, 5, 0, 0),
  (8, .imul, 1, 0, 0, 0, 0, 0),
  (9, .iadd, 1, 0, 0, 0, 0, 0),
  (10, .putfield 171, 3, 0, 11, 9, 0, 0),
  (13, .iconst 0, 1, 0, 0, 0, 0, 0),
  (14, .ireturn, 1, 0, 1, 0, 0, 0)]
def lM9 (q : Nat) : Nat := 0
def kM10 : List aE := [(0, .aload_n 0, 1, 0, 0, 0, 0, 0),
  (1, .getfield 50, 3, 0, 11, 22, 0, 0),
  (4, .aload_n 0, 1, 0, 0, 0, 0, 0),
  (5, .getfield 174, 3, 0, 11, 23, 0, 0),
  (8, .iload_n 1, 1, 0, 0, 0, 0, 0),
  (9, .iastore, 1, 0, 30, 0, 0, 0),
  (10, .aload_n 0, 1, 0, 0, 0, 0, 0),
  (11, .dup, 1, 0, 0, 0, 0, 0),
  (12, .getfield 174, 3, 0, 11, 23, 0, 0),
  (15, .iconst 1, 1, 0, 0, 0, 1, 0),
  (16, .iadd, 1, 0, 0, 0, 0, 0),
  (17, .putfield 174, 3, 0, 11, 23, 0, 0),
  (20, .return_, 1, 0, 0, 0, 0, 0)]
def lM10 (q : Nat) : Nat := 0
def kM11 : List aE := [(0, .aload_n 0, 1, 0, 0, 0, 0, 0),
  (1, .getfield 160, 3, 0, 11, 6, 0, 0),
  (4, .iconst 1, 1, 0, 0, 0, 1, 0),
  (5, .if_icmp .eq 5, 3, 0, 2, 0, 0, 0),
  (8, .iconst 0, 1, 0, 0, 0, 0, 0),
  (9, .ireturn, 1, 0, 0, 0, 0, 0),
  (10, .aload_n 0, 1, 0, 0, 0, 0, 0),
  (11, .getfield 177, 3, 0, 11, 24, 0, 0),
  (14, .iconst 1, 1, 0, 0, 0, 1, 0),
  (15, .if_icmp .ne 53, 3, 0, 23, 0, 0, 0),
  (18, .aload_n 0, 1, 0, 0, 0, 0, 0),
  (19, .getfield 153, 3, 0, 11, 7, 0, 0),
  (22, .ldc2_w 180, 3, 0, 0, 0, 0, 14431),
  (25, .lcmp, 1, 0, 0, 0, 0, 0),
  (26, .ifCond .ne 8, 3, 0, 2, 0, 0, 0),
  (29, .bipush 6, 2, 0, 0, 0, 6, 0),
  (31, .goto 36, 3, 0, 15, 0, 0, 0),
  (34, .aload_n 0, 1, 0, 0, 0, 0, 0),
  (35, .getfield 153, 3, 0, 11, 7, 0, 0),
  (38, .ldc2_w 182, 3, 0, 0, 0, 0, 267347),
  (41, .lcmp, 1, 0, 0, 0, 0, 0),
  (42, .ifCond .ne 8, 3, 0, 2, 0, 0, 0),
  (45, .bipush 7, 2, 0, 0, 0, 7, 0),
  (47, .goto 20, 3, 0, 8, 0, 0, 0),
  (50, .aload_n 0, 1, 0, 0, 0, 0, 0),
  (51, .getfield 153, 3, 0, 11, 7, 0, 0),
  (54, .ldc2_w 184, 3, 0, 0, 0, 0, 281317594),
  (57, .lcmp, 1, 0, 0, 0, 0, 0),
  (58, .ifCond .ne 8, 3, 0, 2, 0, 0, 0),
  (61, .bipush 8, 2, 0, 0, 0, 8, 0),
  (63, .goto 4, 3, 0, 1, 0, 0, 0),
  (66, .iconst 0, 1, 0, 0, 0, 0, 0),
  (67, .ireturn, 1, 0, 0, 0, 0, 0),
  (68, .aload_n 0, 1, 0, 0, 0, 0, 0),
  (69, .getfield 153, 3, 0, 11, 7, 0, 0),
  (72, .ldc2_w 186, 3, 0, 0, 0, 0, 4351291),
  (75, .lcmp, 1, 0, 0, 0, 0, 0),
  (76, .ifCond .ne 5, 3, 0, 2, 0, 0, 0),
  (79, .iconst 1, 1, 0, 0, 0, 1, 0),
  (80, .ireturn, 1, 0, 0, 0, 0, 0),
  (81, .aload_n 0, 1, 0, 0, 0, 0, 0),
  (82, .getfield 153, 3, 0, 11, 7, 0, 0),
  (85, .ldc2_w 188, 3, 0, 0, 0, 0, 129415),
  (88, .lcmp, 1, 0, 0, 0, 0, 0),
  (89, .ifCond .ne 5, 3, 0, 2, 0, 0, 0),
  (92, .iconst 2, 1, 0, 0, 0, 2, 0),
  (93, .ireturn, 1, 0, 0, 0, 0, 0),
  (94, .aload_n 0, 1, 0, 0, 0, 0, 0),
  (95, .getfield 153, 3, 0, 11, 7, 0, 0),
  (98, .ldc2_w 190, 3, 0, 0, 0, 0, 10354323),
  (101, .lcmp, 1, 0, 0, 0, 0, 0),
  (102, .ifCond .ne 7, 3, 0, 2, 0, 0, 0),
  (105, .iconst 3, 1, 0, 0, 0, 3, 0),
  (106, .goto 34, 3, 0, 15, 0, 0, 0),
  (109, .aload_n 0, 1, 0, 0, 0, 0, 0),
  (110, .getfield 153, 3, 0, 11, 7, 0, 0),
  (113, .ldc2_w 192, 3, 0, 0, 0, 0, 267305),
  (116, .lcmp, 1, 0, 0, 0, 0, 0),
  (117, .ifCond .ne 7, 3, 0, 2, 0, 0, 0),
  (120, .iconst 4, 1, 0, 0, 0, 4, 0),
  (121, .goto 19, 3, 0, 8, 0, 0, 0),
  (124, .aload_n 0, 1, 0, 0, 0, 0, 0),
  (125, .getfield 153, 3, 0, 11, 7, 0, 0),
  (128, .ldc2_w 194, 3, 0, 0, 0, 0, 692581),
  (131, .lcmp, 1, 0, 0, 0, 0, 0),
  (132, .ifCond .ne 7, 3, 0, 2, 0, 0, 0),
  (135, .iconst 5, 1, 0, 0, 0, 5, 0),
  (136, .goto 4, 3, 0, 1, 0, 0, 0),
  (139, .iconst 0, 1, 0, 0, 0, 0, 0),
  (140, .ireturn, 1, 0, 0, 0, 0, 0)]
def lM11 (q : Nat) : Nat := 0
def kM12 : List aE := [(0, .iconst 0, 1, 0, 0, 0, 0, 0),
  (1, .istore_n 1, 1, 0, 0, 0, 0, 0),
  (2, .iconst 1, 1, 0, 0, 0, 1, 0),
  (3, .istore_n 2, 1, 0, 0, 0, 0, 0),
  (4, .aload_n 0, 1, 0, 0, 0, 0, 0),
  (5, .getfield 56, 3, 0, 11, 27, 0, 0),
  (8, .iconst 0, 1, 0, 0, 0, 0, 0),
  (9, .iconst 0, 1, 0, 0, 0, 0, 0),
  (10, .bastore, 1, 0, 33, 0, 0, 0),
  (11, .iload_n 2, 1, 10, 0, 0, 0, 0),
  (12, .ifCond .eq 167, 3, 0, 84, 0, 0, 0),
  (15, .aload_n 0, 1, 0, 0, 0, 0, 0),
  (16, .invokevirtual 196, 3, 0, 11, 17, 0, 0),
  (19, .istore_n 3, 1, 0, 0, 0, 0, 0),
  (20, .aload_n 0, 1, 0, 0, 0, 0, 0),
  (21, .ldc2_w 200, 3, 0, 0, 0, 0, 10631),
  (24, .invokevirtual 202, 3, 0, 7, 18, 0, 0),
  (27, .istore 4, 2, 0, 0, 0, 0, 0),
  (29, .aload_n 0, 1, 0, 0, 0, 0, 0),
  (30, .bipush 40, 2, 0, 0, 0, 40, 0),
  (32, .invokevirtual 206, 3, 0, 8, 18, 0, 0),
  (35, .istore 5, 2, 0, 0, 0, 0, 0),
  (37, .iload_n 3, 1, 0, 0, 0, 0, 0),
  (38, .ifCond .ne 27, 3, 0, 36, 1, 0, 0),
  (41, .iload 4, 2, 0, 0, 0, 0, 0),
  (43, .ifCond .ne 22, 3, 0, 36, 1, 0, 0),
  (46, .iload 5, 2, 0, 0, 0, 0, 0),
  (48, .ifCond .ne 17, 3, 0, 36, 1, 0, 0),
  (51, .aload_n 0, 1, 0, 0, 0, 0, 0),
  (52, .getfield 160, 3, 0, 11, 6, 0, 0),
  (55, .iconst 2, 1, 0, 0, 0, 2, 0),
  (56, .if_icmp .eq 9, 3, 0, 36, 1, 0, 0),
  (59, .aload_n 0, 1, 0, 0, 0, 0, 0),
  (60, .iconst 1, 1, 0, 0, 0, 1, 0),
  (61, .invokevirtual 210, 3, 0, 9, 18, 0, 0),
  (64, .ireturn, 1, 0, 1, 0, 0, 0),
  (65, .iload_n 1, 1, 37, 0, 0, 0, 0),
  (66, .iconst 5, 1, 0, 0, 0, 5, 0),
  (67, .if_icmp .ne 9, 3, 0, 4, 0, 0, 0),
  (70, .aload_n 0, 1, 0, 0, 0, 0, 0),
  (71, .iconst 5, 1, 0, 0, 0, 5, 0),
  (72, .invokevirtual 210, 3, 0, 9, 18, 0, 0),
  (75, .ireturn, 1, 0, 1, 0, 0, 0),
  (76, .iload 4, 2, 0, 0, 0, 0, 0),
  (78, .ifCond .ne 8, 3, 0, 2, 0, 0, 0),
  (81, .iload 5, 2, 0, 0, 0, 0, 0),
  (83, .ifCond .eq 48, 3, 0, 23, 0, 0, 0),
  (86, .aload_n 0, 1, 0, 0, 0, 0, 0),
  (87, .iload 4, 2, 0, 0, 0, 0, 0),
  (89, .ifCond .eq 8, 3, 0, 2, 0, 0, 0),
  (92, .bipush 30, 2, 0, 0, 0, 30, 0),
  (94, .goto 5, 3, 0, 53, 1, 0, 0),
  (97, .bipush 28, 2, 0, 0, 0, 28, 0),
  (99, .invokevirtual 213, 3, 54, 10, 2, 0, 0),
  (102, .iinc 1 1, 3, 0, 0, 0, 1, 0),
  (105, .aload_n 0, 1, 0, 0, 0, 0, 0),
  (106, .getfield 53, 3, 0, 11, 26, 0, 0),
  (109, .iload_n 1, 1, 0, 0, 0, 0, 0),
  (110, .iload 4, 2, 0, 0, 0, 0, 0),
  (112, .ifCond .eq 7, 3, 0, 2, 0, 0, 0),
  (115, .iconst 1, 1, 0, 0, 0, 1, 0),
  (116, .goto 4, 3, 0, 1, 0, 0, 0),
  (119, .iconst 2, 1, 0, 0, 0, 2, 0),
  (120, .iastore, 1, 0, 30, 0, 0, 0),
  (121, .aload_n 0, 1, 0, 0, 0, 0, 0),
  (122, .getfield 56, 3, 0, 11, 27, 0, 0),
  (125, .iload_n 1, 1, 0, 0, 0, 0, 0),
  (126, .iconst 0, 1, 0, 0, 0, 0, 0),
  (127, .bastore, 1, 0, 33, 0, 0, 0),
  (128, .goto 44, 3, 0, 22, 0, 0, 0),
  (131, .aload_n 0, 1, 0, 0, 0, 0, 0),
  (132, .iload_n 3, 1, 0, 0, 0, 0, 0),
  (133, .ifCond .le 7, 3, 0, 2, 0, 0, 0),
  (136, .iload_n 3, 1, 0, 0, 0, 0, 0),
  (137, .goto 10, 3, 0, 4, 0, 0, 0),
  (140, .bipush 100, 2, 0, 0, 0, 100, 0),
  (142, .aload_n 0, 1, 0, 0, 0, 0, 0),
  (143, .getfield 157, 3, 0, 11, 8, 0, 0),
  (146, .iadd, 1, 0, 0, 0, 0, 0),
  (147, .invokevirtual 213, 3, 0, 10, 2, 0, 0),
  (150, .iconst 0, 1, 0, 0, 0, 0, 0),
  (151, .istore_n 2, 1, 0, 0, 0, 0, 0),
  (152, .iload_n 1, 1, 83, 0, 0, 0, 0),
  (153, .ifCond .le 19, 3, 0, 8, 0, 0, 0),
  (156, .aload_n 0, 1, 0, 0, 0, 0, 0),
  (157, .getfield 53, 3, 0, 11, 26, 0, 0),
  (160, .iload_n 1, 1, 0, 0, 0, 0, 0),
  (161, .iaload, 1, 0, 30, 0, 0, 0),
  (162, .iconst 1, 1, 0, 0, 0, 1, 0),
  (163, .if_icmp .ne 9, 3, 0, 2, 0, 0, 0),
  (166, .iinc 1 (-1), 3, 0, 0, 0, -1, 0),
  (169, .goto (-17), 3, 0, 82, 1, 0, 0),
  (172, .aload_n 0, 1, 0, 0, 0, 0, 0),
  (173, .invokevirtual 217, 3, 0, 6, 1, 0, 0),
  (176, .goto (-165), 3, 0, 9, 1, 0, 0),
  (179, .aload_n 0, 1, 0, 0, 0, 0, 0),
  (180, .bipush 43, 2, 0, 0, 0, 43, 0),
  (182, .invokevirtual 206, 3, 0, 8, 18, 0, 0),
  (185, .ifCond .ne 21, 3, 0, 107, 1, 0, 0),
  (188, .aload_n 0, 1, 0, 0, 0, 0, 0),
  (189, .bipush 45, 2, 0, 0, 0, 45, 0),
  (191, .invokevirtual 206, 3, 0, 8, 18, 0, 0),
  (194, .ifCond .ne 12, 3, 0, 107, 1, 0, 0),
  (197, .aload_n 0, 1, 0, 0, 0, 0, 0),
  (198, .bipush 42, 2, 0, 0, 0, 42, 0),
  (200, .invokevirtual 206, 3, 0, 8, 18, 0, 0),
  (203, .ifCond .eq 42, 3, 0, 18, 0, 0, 0),
  (206, .aload_n 0, 1, 108, 0, 0, 0, 0),
  (207, .aload_n 0, 1, 0, 0, 0, 0, 0),
  (208, .bipush 43, 2, 0, 0, 0, 43, 0),
  (210, .invokevirtual 206, 3, 0, 8, 18, 0, 0),
  (213, .ifCond .eq 8, 3, 0, 2, 0, 0, 0),
  (216, .bipush 20, 2, 0, 0, 0, 20, 0),
  (218, .goto 19, 3, 0, 7, 0, 0, 0),
  (221, .aload_n 0, 1, 0, 0, 0, 0, 0),
  (222, .bipush 45, 2, 0, 0, 0, 45, 0),
  (224, .invokevirtual 206, 3, 0, 8, 18, 0, 0),
  (227, .ifCond .eq 8, 3, 0, 2, 0, 0, 0),
  (230, .bipush 21, 2, 0, 0, 0, 21, 0),
  (232, .goto 5, 3, 0, 1, 0, 0, 0),
  (235, .bipush 22, 2, 0, 0, 0, 22, 0),
  (237, .invokevirtual 213, 3, 0, 10, 2, 0, 0),
  (240, .iconst 1, 1, 0, 0, 0, 1, 0),
  (241, .istore_n 2, 1, 0, 0, 0, 0, 0),
  (242, .goto 182, 3, 0, 89, 0, 0, 0),
  (245, .aload_n 0, 1, 0, 0, 0, 0, 0),
  (246, .bipush 60, 2, 0, 0, 0, 60, 0),
  (248, .invokevirtual 206, 3, 0, 8, 18, 0, 0),
  (251, .ifCond .ne 12, 3, 0, 133, 1, 0, 0),
  (254, .aload_n 0, 1, 0, 0, 0, 0, 0),
  (255, .bipush 61, 2, 0, 0, 0, 61, 0),
  (257, .invokevirtual 206, 3, 0, 8, 18, 0, 0),
  (260, .ifCond .eq 44, 3, 0, 155, 1, 0, 0),
  (263, .aload_n 0, 1, 134, 0, 0, 0, 0),
  (264, .getfield 56, 3, 0, 11, 27, 0, 0),
  (267, .iload_n 1, 1, 0, 0, 0, 0, 0),
  (268, .baload, 1, 0, 33, 0, 0, 0),
  (269, .ifCond .ne 35, 3, 0, 155, 1, 0, 0),
  (272, .aload_n 0, 1, 0, 0, 0, 0, 0),
  (273, .aload_n 0, 1, 0, 0, 0, 0, 0),
  (274, .bipush 60, 2, 0, 0, 0, 60, 0),
  (276, .invokevirtual 206, 3, 0, 8, 18, 0, 0),
  (279, .ifCond .eq 8, 3, 0, 2, 0, 0, 0),
  (282, .bipush 24, 2, 0, 0, 0, 24, 0),
  (284, .goto 5, 3, 0, 1, 0, 0, 0),
  (287, .bipush 25, 2, 0, 0, 0, 25, 0),
  (289, .invokevirtual 213, 3, 0, 10, 2, 0, 0),
  (292, .aload_n 0, 1, 0, 0, 0, 0, 0),
  (293, .getfield 56, 3, 0, 11, 27, 0, 0),
  (296, .iload_n 1, 1, 0, 0, 0, 0, 0),
  (297, .iconst 1, 1, 0, 0, 0, 1, 0),
  (298, .bastore, 1, 0, 33, 0, 0, 0),
  (299, .iconst 1, 1, 0, 0, 0, 1, 0),
  (300, .istore_n 2, 1, 0, 0, 0, 0, 0),
  (301, .goto 123, 3, 0, 59, 0, 0, 0),
  (304, .aload_n 0, 1, 156, 0, 0, 0, 0),
  (305, .ldc2_w 220, 3, 0, 0, 0, 0, 1111),
  (308, .invokevirtual 202, 3, 0, 7, 18, 0, 0),
  (311, .ifCond .ne 13, 3, 0, 163, 1, 0, 0),
  (314, .aload_n 0, 1, 0, 0, 0, 0, 0),
  (315, .ldc2_w 222, 3, 0, 0, 0, 0, 423),
  (318, .invokevirtual 202, 3, 0, 7, 18, 0, 0),
  (321, .ifCond .eq 36, 3, 0, 17, 0, 0, 0),
  (324, .aload_n 0, 1, 164, 0, 0, 0, 0),
  (325, .aload_n 0, 1, 0, 0, 0, 0, 0),
  (326, .ldc2_w 220, 3, 0, 0, 0, 0, 1111),
  (329, .invokevirtual 202, 3, 0, 7, 18, 0, 0),
  (332, .ifCond .eq 8, 3, 0, 2, 0, 0, 0),
  (335, .bipush 26, 2, 0, 0, 0, 26, 0),
  (337, .goto 5, 3, 0, 1, 0, 0, 0),
  (340, .bipush 27, 2, 0, 0, 0, 27, 0),
  (342, .invokevirtual 213, 3, 0, 10, 2, 0, 0),
  (345, .aload_n 0, 1, 0, 0, 0, 0, 0),
  (346, .getfield 56, 3, 0, 11, 27, 0, 0),
  (349, .iload_n 1, 1, 0, 0, 0, 0, 0),
  (350, .iconst 0, 1, 0, 0, 0, 0, 0),
  (351, .bastore, 1, 0, 33, 0, 0, 0),
  (352, .iconst 1, 1, 0, 0, 0, 1, 0),
  (353, .istore_n 2, 1, 0, 0, 0, 0, 0),
  (354, .goto 70, 3, 0, 34, 0, 0, 0),
  (357, .aload_n 0, 1, 0, 0, 0, 0, 0),
  (358, .bipush 41, 2, 0, 0, 0, 41, 0),
  (360, .invokevirtual 206, 3, 0, 8, 18, 0, 0),
  (363, .ifCond .eq 36, 3, 0, 200, 1, 0, 0),
  (366, .iload_n 1, 1, 0, 0, 0, 0, 0),
  (367, .ifCond .le 32, 3, 0, 200, 1, 0, 0),
  (370, .aload_n 0, 1, 0, 0, 0, 0, 0),
  (371, .bipush 29, 2, 0, 0, 0, 29, 0),
  (373, .invokevirtual 213, 3, 0, 10, 2, 0, 0),
  (376, .iinc 1 (-1), 3, 0, 0, 0, -1, 0),
  (379, .iload_n 1, 1, 191, 0, 0, 0, 0),
  (380, .ifCond .le 44, 3, 0, 22, 0, 0, 0),
  (383, .aload_n 0, 1, 0, 0, 0, 0, 0),
  (384, .getfield 53, 3, 0, 11, 26, 0, 0),
  (387, .iload_n 1, 1, 0, 0, 0, 0, 0),
  (388, .iaload, 1, 0, 30, 0, 0, 0),
  (389, .iconst 1, 1, 0, 0, 0, 1, 0),
  (390, .if_icmp .ne 34, 3, 0, 16, 0, 0, 0),
  (393, .iinc 1 (-1), 3, 0, 0, 0, -1, 0),
  (396, .goto (-17), 3, 0, 190, 1, 0, 0),
  (399, .iload_n 1, 1, 201, 0, 0, 0, 0),
  (400, .ifCond .ne 18, 3, 0, 8, 0, 0, 0),
  (403, .aload_n 0, 1, 0, 0, 0, 0, 0),
  (404, .bipush 59, 2, 0, 0, 0, 59, 0),
  (406, .invokevirtual 206, 3, 0, 8, 18, 0, 0),
  (409, .ifCond .eq 9, 3, 0, 4, 0, 0, 0),
  (412, .aload_n 0, 1, 0, 0, 0, 0, 0),
  (413, .invokevirtual 217, 3, 0, 6, 1, 0, 0),
  (416, .iconst 1, 1, 0, 0, 0, 1, 0),
  (417, .ireturn, 1, 0, 1, 0, 0, 0),
  (418, .aload_n 0, 1, 0, 0, 0, 0, 0),
  (419, .iconst 1, 1, 0, 0, 0, 1, 0),
  (420, .invokevirtual 210, 3, 0, 9, 18, 0, 0),
  (423, .ireturn, 1, 0, 1, 0, 0, 0),
  (424, .aload_n 0, 1, 0, 0, 0, 0, 0),
  (425, .invokevirtual 217, 3, 0, 6, 1, 0, 0),
  (428, .goto (-417), 3, 0, 9, 1, 0, 0)]
def lM12 (q : Nat) : Nat := cond (Nat.ble q 107) (cond (Nat.ble q 36) (cond (Nat.ble q 9) (7) (63)) (cond (Nat.ble q 53) (23) (cond (Nat.ble q 82) (7) (3)))) (cond (Nat.ble q 155) (cond (Nat.ble q 133) (7) (7)) (cond (Nat.ble q 163) (3) (cond (Nat.ble q 190) (7) (3))))
def kM13 : List aE := [(0, .aload_n 0, 1, 0, 0, 0, 0, 0),
  (1, .getfield 63, 3, 0, 11, 29, 0, 0),
  (4, .iload_n 1, 1, 0, 0, 0, 0, 0),
  (5, .iconst 0, 1, 0, 0, 0, 0, 0),
  (6, .iastore, 1, 0, 30, 0, 0, 0),
  (7, .aload_n 0, 1, 0, 0, 0, 0, 0),
  (8, .getfield 69, 3, 0, 11, 31, 0, 0),
  (11, .iload_n 1, 1, 0, 0, 0, 0, 0),
  (12, .iconst 0, 1, 0, 0, 0, 0, 0),
  (13, .iastore, 1, 0, 30, 0, 0, 0),
  (14, .aload_n 0, 1, 0, 0, 0, 0, 0),
  (15, .getfield 72, 3, 0, 11, 32, 0, 0),
  (18, .iload_n 1, 1, 0, 0, 0, 0, 0),
  (19, .iconst 0, 1, 0, 0, 0, 0, 0),
  (20, .iastore, 1, 0, 30, 0, 0, 0),
  (21, .aload_n 0, 1, 0, 0, 0, 0, 0),
  (22, .getfield 75, 3, 0, 11, 33, 0, 0),
  (25, .iload_n 1, 1, 0, 0, 0, 0, 0),
  (26, .bipush 20, 2, 0, 0, 0, 20, 0),
  (28, .iastore, 1, 0, 30, 0, 0, 0),
  (29, .aload_n 0, 1, 0, 0, 0, 0, 0),
  (30, .getfield 81, 3, 0, 11, 35, 0, 0),
  (33, .iload_n 1, 1, 0, 0, 0, 0, 0),
  (34, .iconst 0, 1, 0, 0, 0, 0, 0),
  (35, .iastore, 1, 0, 30, 0, 0, 0),
  (36, .return_, 1, 0, 0, 0, 0, 0)]
def lM13 (q : Nat) : Nat := 0
def kM14 : List aE := [(0, .aload_n 0, 1, 0, 0, 0, 0, 0),
  (1, .getfield 72, 3, 0, 11, 32, 0, 0),
  (4, .iload_n 1, 1, 0, 0, 0, 0, 0),
  (5, .aload_n 0, 1, 0, 0, 0, 0, 0),
  (6, .getfield 75, 3, 0, 11, 33, 0, 0),
  (9, .iload_n 1, 1, 0, 0, 0, 0, 0),
  (10, .iaload, 1, 0, 30, 0, 0, 0),
  (11, .bipush 21, 2, 0, 0, 0, 21, 0),
  (13, .if_icmp .ne 19, 3, 0, 10, 0, 0, 0),
  (16, .aload_n 0, 1, 0, 0, 0, 0, 0),
  (17, .getfield 72, 3, 0, 11, 32, 0, 0),
  (20, .iload_n 1, 1, 0, 0, 0, 0, 0),
  (21, .iaload, 1, 0, 30, 0, 0, 0),
  (22, .aload_n 0, 1, 0, 0, 0, 0, 0),
  (23, .getfield 78, 3, 0, 11, 34, 0, 0),
  (26, .iload_n 1, 1, 0, 0, 0, 0, 0),
  (27, .iaload, 1, 0, 30, 0, 0, 0),
  (28, .isub, 1, 0, 0, 0, 0, 0),
  (29, .goto 16, 3, 0, 9, 0, 0, 0),
  (32, .aload_n 0, 1, 0, 0, 0, 0, 0),
  (33, .getfield 72, 3, 0, 11, 32, 0, 0),
  (36, .iload_n 1, 1, 0, 0, 0, 0, 0),
  (37, .iaload, 1, 0, 30, 0, 0, 0),
  (38, .aload_n 0, 1, 0, 0, 0, 0, 0),
  (39, .getfield 78, 3, 0, 11, 34, 0, 0),
  (42, .iload_n 1, 1, 0, 0, 0, 0, 0),
  (43, .iaload, 1, 0, 30, 0, 0, 0),
  (44, .iadd, 1, 0, 0, 0, 0, 0),
  (45, .iastore, 1, 0, 30, 0, 0, 0),
  (46, .aload_n 0, 1, 0, 0, 0, 0, 0),
  (47, .getfield 81, 3, 0, 11, 35, 0, 0),
  (50, .iload_n 1, 1, 0, 0, 0, 0, 0),
  (51, .iconst 0, 1, 0, 0, 0, 0, 0),
  (52, .iastore, 1, 0, 30, 0, 0, 0),
  (53, .return_, 1, 0, 0, 0, 0, 0)]
def lM14 (q : Nat) : Nat := 0
def kM15 : List aE := [(0, .aload_n 0, 1, 0, 0, 0, 0, 0),
  (1, .iload_n 1, 1, 0, 0, 0, 0, 0),
  (2, .invokevirtual 224, 3, 0, 14, 2, 0, 0),
  (5, .aload_n 0, 1, 0, 0, 0, 0, 0),
  (6, .getfield 72, 3, 0, 11, 32, 0, 0),
  (9, .iload_n 1, 1, 0, 0, 0, 0, 0),
  (10, .iaload, 1, 0, 30, 0, 0, 0),
  (11, .istore_n 2, 1, 0, 0, 0, 0, 0),
  (12, .aload_n 0, 1, 0, 0, 0, 0, 0),
  (13, .getfield 69, 3, 0, 11, 31, 0, 0),
  (16, .iload_n 1, 1, 0, 0, 0, 0, 0),
  (17, .iaload, 1, 0, 30, 0, 0, 0),
  (18, .bipush 24, 2, 0, 0, 0, 24, 0),
  (20, .if_icmp .ne 24, 3, 0, 27, 1, 0, 0),
  (23, .aload_n 0, 1, 0, 0, 0, 0, 0),
  (24, .getfield 66, 3, 0, 11, 30, 0, 0),
  (27, .iload_n 1, 1, 0, 0, 0, 0, 0),
  (28, .iaload, 1, 0, 30, 0, 0, 0),
  (29, .aload_n 0, 1, 0, 0, 0, 0, 0),
  (30, .getfield 72, 3, 0, 11, 32, 0, 0),
  (33, .iload_n 1, 1, 0, 0, 0, 0, 0),
  (34, .iaload, 1, 0, 30, 0, 0, 0),
  (35, .if_icmp .ge 7, 3, 0, 2, 0, 0, 0),
  (38, .iconst 1, 1, 0, 0, 0, 1, 0),
  (39, .goto 4, 3, 0, 1, 0, 0, 0),
  (42, .iconst 0, 1, 0, 0, 0, 0, 0),
  (43, .istore_n 2, 1, 0, 0, 0, 0, 0),
  (44, .aload_n 0, 1, 28, 0, 0, 0, 0),
  (45, .getfield 69, 3, 0, 11, 31, 0, 0),
  (48, .iload_n 1, 1, 0, 0, 0, 0, 0),
  (49, .iaload, 1, 0, 30, 0, 0, 0),
  (50, .bipush 25, 2, 0, 0, 0, 25, 0),
  (52, .if_icmp .ne 24, 3, 0, 46, 1, 0, 0),
  (55, .aload_n 0, 1, 0, 0, 0, 0, 0),
  (56, .getfield 66, 3, 0, 11, 30, 0, 0),
  (59, .iload_n 1, 1, 0, 0, 0, 0, 0),
  (60, .iaload, 1, 0, 30, 0, 0, 0),
  (61, .aload_n 0, 1, 0, 0, 0, 0, 0),
  (62, .getfield 72, 3, 0, 11, 32, 0, 0),
  (65, .iload_n 1, 1, 0, 0, 0, 0, 0),
  (66, .iaload, 1, 0, 30, 0, 0, 0),
  (67, .if_icmp .ne 7, 3, 0, 2, 0, 0, 0),
  (70, .iconst 1, 1, 0, 0, 0, 1, 0),
  (71, .goto 4, 3, 0, 1, 0, 0, 0),
  (74, .iconst 0, 1, 0, 0, 0, 0, 0),
  (75, .istore_n 2, 1, 0, 0, 0, 0, 0),
  (76, .aload_n 0, 1, 47, 0, 0, 0, 0),
  (77, .getfield 63, 3, 0, 11, 29, 0, 0),
  (80, .iload_n 1, 1, 0, 0, 0, 0, 0),
  (81, .iaload, 1, 0, 30, 0, 0, 0),
  (82, .bipush 26, 2, 0, 0, 0, 26, 0),
  (84, .if_icmp .ne 22, 3, 0, 63, 1, 0, 0),
  (87, .aload_n 0, 1, 0, 0, 0, 0, 0),
  (88, .getfield 60, 3, 0, 11, 28, 0, 0),
  (91, .iload_n 1, 1, 0, 0, 0, 0, 0),
  (92, .iaload, 1, 0, 30, 0, 0, 0),
  (93, .ifCond .eq 11, 3, 0, 4, 0, 0, 0),
  (96, .iload_n 2, 1, 0, 0, 0, 0, 0),
  (97, .ifCond .eq 7, 3, 0, 2, 0, 0, 0),
  (100, .iconst 1, 1, 0, 0, 0, 1, 0),
  (101, .goto 4, 3, 0, 1, 0, 0, 0),
  (104, .iconst 0, 1, 0, 0, 0, 0, 0),
  (105, .istore_n 2, 1, 0, 0, 0, 0, 0),
  (106, .aload_n 0, 1, 64, 0, 0, 0, 0),
  (107, .getfield 63, 3, 0, 11, 29, 0, 0),
  (110, .iload_n 1, 1, 0, 0, 0, 0, 0),
  (111, .iaload, 1, 0, 30, 0, 0, 0),
  (112, .bipush 27, 2, 0, 0, 0, 27, 0),
  (114, .if_icmp .ne 22, 3, 0, 80, 1, 0, 0),
  (117, .aload_n 0, 1, 0, 0, 0, 0, 0),
  (118, .getfield 60, 3, 0, 11, 28, 0, 0),
  (121, .iload_n 1, 1, 0, 0, 0, 0, 0),
  (122, .iaload, 1, 0, 30, 0, 0, 0),
  (123, .ifCond .ne 7, 3, 0, 2, 0, 0, 0),
  (126, .iload_n 2, 1, 0, 0, 0, 0, 0),
  (127, .ifCond .eq 7, 3, 0, 2, 0, 0, 0),
  (130, .iconst 1, 1, 0, 0, 0, 1, 0),
  (131, .goto 4, 3, 0, 1, 0, 0, 0),
  (134, .iconst 0, 1, 0, 0, 0, 0, 0),
  (135, .istore_n 2, 1, 0, 0, 0, 0, 0),
  (136, .aload_n 0, 1, 81, 0, 0, 0, 0),
  (137, .getfield 60, 3, 0, 11, 28, 0, 0),
  (140, .iload_n 1, 1, 0, 0, 0, 0, 0),
  (141, .iload_n 2, 1, 0, 0, 0, 0, 0),
  (142, .iastore, 1, 0, 30, 0, 0, 0),
  (143, .aload_n 0, 1, 0, 0, 0, 0, 0),
  (144, .getfield 69, 3, 0, 11, 31, 0, 0),
  (147, .iload_n 1, 1, 0, 0, 0, 0, 0),
  (148, .iconst 0, 1, 0, 0, 0, 0, 0),
  (149, .iastore, 1, 0, 30, 0, 0, 0),
  (150, .aload_n 0, 1, 0, 0, 0, 0, 0),
  (151, .getfield 72, 3, 0, 11, 32, 0, 0),
  (154, .iload_n 1, 1, 0, 0, 0, 0, 0),
  (155, .iconst 0, 1, 0, 0, 0, 0, 0),
  (156, .iastore, 1, 0, 30, 0, 0, 0),
  (157, .aload_n 0, 1, 0, 0, 0, 0, 0),
  (158, .getfield 75, 3, 0, 11, 33, 0, 0),
  (161, .iload_n 1, 1, 0, 0, 0, 0, 0),
  (162, .bipush 20, 2, 0, 0, 0, 20, 0),
  (164, .iastore, 1, 0, 30, 0, 0, 0),
  (165, .return_, 1, 0, 0, 0, 0, 0)]
def lM15 (q : Nat) : Nat := cond (Nat.ble q 46) (cond (Nat.ble q 27) (7) (7)) (cond (Nat.ble q 63) (7) (7))
def kM16 : List aE := [(0, .iconst 0, 1, 0, 0, 0, 0, 0),
  (1, .istore_n 2, 1, 0, 0, 0, 0, 0),
  (2, .aload_n 0, 1, 0, 0, 0, 0, 0),
  (3, .iconst 0, 1, 0, 0, 0, 0, 0),
  (4, .invokevirtual 227, 3, 0, 13, 2, 0, 0),
  (7, .aload_n 0, 1, 0, 0, 0, 0, 0),
  (8, .getfield 44, 3, 0, 11, 20, 0, 0),
  (11, .iload_n 1, 1, 0, 0, 0, 0, 0),
  (12, .iaload, 1, 0, 30, 0, 0, 0),
  (13, .istore_n 3, 1, 0, 0, 0, 0, 0),
  (14, .iload_n 3, 1, 11, 0, 0, 0, 0),
  (15, .aload_n 0, 1, 0, 0, 0, 0, 0),
  (16, .getfield 47, 3, 0, 11, 21, 0, 0),
  (19, .iload_n 1, 1, 0, 0, 0, 0, 0),
  (20, .iaload, 1, 0, 30, 0, 0, 0),
  (21, .if_icmp .ge 314, 3, 0, 162, 0, 0, 0),
  (24, .aload_n 0, 1, 0, 0, 0, 0, 0),
  (25, .getfield 50, 3, 0, 11, 22, 0, 0),
  (28, .iload_n 3, 1, 0, 0, 0, 0, 0),
  (29, .iaload, 1, 0, 30, 0, 0, 0),
  (30, .istore 4, 2, 0, 0, 0, 0, 0),
  (32, .iload 4, 2, 0, 0, 0, 0, 0),
  (34, .bipush 28, 2, 0, 0, 0, 28, 0),
  (36, .if_icmp .eq 10, 3, 0, 27, 1, 0, 0),
  (39, .iload 4, 2, 0, 0, 0, 0, 0),
  (41, .bipush 30, 2, 0, 0, 0, 30, 0),
  (43, .if_icmp .ne 32, 3, 0, 15, 0, 0, 0),
  (46, .iinc 2 1, 3, 28, 0, 0, 1, 0),
  (49, .aload_n 0, 1, 0, 0, 0, 0, 0),
  (50, .getfield 84, 3, 0, 11, 36, 0, 0),
  (53, .iload_n 2, 1, 0, 0, 0, 0, 0),
  (54, .iload 4, 2, 0, 0, 0, 0, 0),
  (56, .bipush 30, 2, 0, 0, 0, 30, 0),
  (58, .if_icmp .ne 7, 3, 0, 2, 0, 0, 0),
  (61, .iconst 1, 1, 0, 0, 0, 1, 0),
  (62, .goto 4, 3, 0, 1, 0, 0, 0),
  (65, .iconst 0, 1, 0, 0, 0, 0, 0),
  (66, .iastore, 1, 0, 30, 0, 0, 0),
  (67, .aload_n 0, 1, 0, 0, 0, 0, 0),
  (68, .iload_n 2, 1, 0, 0, 0, 0, 0),
  (69, .invokevirtual 227, 3, 0, 13, 2, 0, 0),
  (72, .goto 257, 3, 0, 134, 0, 0, 0),
  (75, .iload 4, 2, 0, 0, 0, 0, 0),
  (77, .bipush 20, 2, 0, 0, 0, 20, 0),
  (79, .if_icmp .eq 10, 3, 0, 3, 0, 0, 0),
  (82, .iload 4, 2, 0, 0, 0, 0, 0),
  (84, .bipush 21, 2, 0, 0, 0, 21, 0),
  (86, .if_icmp .ne 19, 3, 0, 9, 0, 0, 0),
  (89, .aload_n 0, 1, 0, 0, 0, 0, 0),
  (90, .iload_n 2, 1, 0, 0, 0, 0, 0),
  (91, .invokevirtual 224, 3, 0, 14, 2, 0, 0),
  (94, .aload_n 0, 1, 0, 0, 0, 0, 0),
  (95, .getfield 75, 3, 0, 11, 33, 0, 0),
  (98, .iload_n 2, 1, 0, 0, 0, 0, 0),
  (99, .iload 4, 2, 0, 0, 0, 0, 0),
  (101, .iastore, 1, 0, 30, 0, 0, 0),
  (102, .goto 227, 3, 0, 119, 0, 0, 0),
  (105, .iload 4, 2, 0, 0, 0, 0, 0),
  (107, .bipush 22, 2, 0, 0, 0, 22, 0),
  (109, .if_icmp .ne 14, 3, 0, 6, 0, 0, 0),
  (112, .aload_n 0, 1, 0, 0, 0, 0, 0),
  (113, .getfield 81, 3, 0, 11, 35, 0, 0),
  (116, .iload_n 2, 1, 0, 0, 0, 0, 0),
  (117, .iload 4, 2, 0, 0, 0, 0, 0),
  (119, .iastore, 1, 0, 30, 0, 0, 0),
  (120, .goto 209, 3, 0, 110, 0, 0, 0),
  (123, .iload 4, 2, 0, 0, 0, 0, 0),
  (125, .bipush 24, 2, 0, 0, 0, 24, 0),
  (127, .if_icmp .eq 10, 3, 0, 72, 1, 0, 0),
  (130, .iload 4, 2, 0, 0, 0, 0, 0),
  (132, .bipush 25, 2, 0, 0, 0, 25, 0),
  (134, .if_icmp .ne 46, 3, 0, 27, 0, 0, 0),
  (137, .aload_n 0, 1, 73, 0, 0, 0, 0),
  (138, .iload_n 2, 1, 0, 0, 0, 0, 0),
  (139, .invokevirtual 224, 3, 0, 14, 2, 0, 0),
  (142, .aload_n 0, 1, 0, 0, 0, 0, 0),
  (143, .getfield 66, 3, 0, 11, 30, 0, 0),
  (146, .iload_n 2, 1, 0, 0, 0, 0, 0),
  (147, .aload_n 0, 1, 0, 0, 0, 0, 0),
  (148, .getfield 72, 3, 0, 11, 32, 0, 0),
  (151, .iload_n 2, 1, 0, 0, 0, 0, 0),
  (152, .iaload, 1, 0, 30, 0, 0, 0),
  (153, .iastore, 1, 0, 30, 0, 0, 0),
  (154, .aload_n 0, 1, 0, 0, 0, 0, 0),
  (155, .getfield 69, 3, 0, 11, 31, 0, 0),
  (158, .iload_n 2, 1, 0, 0, 0, 0, 0),
  (159, .iload 4, 2, 0, 0, 0, 0, 0),
  (161, .iastore, 1, 0, 30, 0, 0, 0),
  (162, .aload_n 0, 1, 0, 0, 0, 0, 0),
  (163, .getfield 72, 3, 0, 11, 32, 0, 0),
  (166, .iload_n 2, 1, 0, 0, 0, 0, 0),
  (167, .iconst 0, 1, 0, 0, 0, 0, 0),
  (168, .iastore, 1, 0, 30, 0, 0, 0),
  (169, .aload_n 0, 1, 0, 0, 0, 0, 0),
  (170, .getfield 75, 3, 0, 11, 33, 0, 0),
  (173, .iload_n 2, 1, 0, 0, 0, 0, 0),
  (174, .bipush 20, 2, 0, 0, 0, 20, 0),
  (176, .iastore, 1, 0, 30, 0, 0, 0),
  (177, .goto 152, 3, 0, 77, 0, 0, 0),
  (180, .iload 4, 2, 0, 0, 0, 0, 0),
  (182, .bipush 26, 2, 0, 0, 0, 26, 0),
  (184, .if_icmp .eq 10, 3, 0, 3, 0, 0, 0),
  (187, .iload 4, 2, 0, 0, 0, 0, 0),
  (189, .bipush 27, 2, 0, 0, 0, 27, 0),
  (191, .if_icmp .ne 19, 3, 0, 9, 0, 0, 0),
  (194, .aload_n 0, 1, 0, 0, 0, 0, 0),
  (195, .iload_n 2, 1, 0, 0, 0, 0, 0),
  (196, .invokevirtual 230, 3, 0, 15, 2, 0, 0),
  (199, .aload_n 0, 1, 0, 0, 0, 0, 0),
  (200, .getfield 63, 3, 0, 11, 29, 0, 0),
  (203, .iload_n 2, 1, 0, 0, 0, 0, 0),
  (204, .iload 4, 2, 0, 0, 0, 0, 0),
  (206, .iastore, 1, 0, 30, 0, 0, 0),
  (207, .goto 122, 3, 0, 62, 0, 0, 0),
  (210, .iload 4, 2, 0, 0, 0, 0, 0),
  (212, .bipush 100, 2, 0, 0, 0, 100, 0),
  (214, .if_icmp .lt 11, 3, 0, 4, 0, 0, 0),
  (217, .iload 4, 2, 0, 0, 0, 0, 0),
  (219, .bipush 100, 2, 0, 0, 0, 100, 0),
  (221, .isub, 1, 0, 0, 0, 0, 0),
  (222, .goto 21, 3, 0, 9, 0, 0, 0),
  (225, .iload 4, 2, 0, 0, 0, 0, 0),
  (227, .bipush 20, 2, 0, 0, 0, 20, 0),
  (229, .if_icmp .ge 13, 3, 0, 5, 0, 0, 0),
  (232, .aload_n 0, 1, 0, 0, 0, 0, 0),
  (233, .getfield 87, 3, 0, 11, 37, 0, 0),
  (236, .iload 4, 2, 0, 0, 0, 0, 0),
  (238, .iaload, 1, 0, 30, 0, 0, 0),
  (239, .goto 4, 3, 0, 1, 0, 0, 0),
  (242, .iconst 0, 1, 0, 0, 0, 0, 0),
  (243, .istore 5, 2, 0, 0, 0, 0, 0),
  (245, .iload 4, 2, 0, 0, 0, 0, 0),
  (247, .bipush 29, 2, 0, 0, 0, 29, 0),
  (249, .if_icmp .ne 19, 3, 0, 143, 1, 0, 0),
  (252, .aload_n 0, 1, 0, 0, 0, 0, 0),
  (253, .iload_n 2, 1, 0, 0, 0, 0, 0),
  (254, .invokevirtual 230, 3, 0, 15, 2, 0, 0),
  (257, .aload_n 0, 1, 0, 0, 0, 0, 0),
  (258, .getfield 60, 3, 0, 11, 28, 0, 0),
  (261, .iload_n 2, 1, 0, 0, 0, 0, 0),
  (262, .iaload, 1, 0, 30, 0, 0, 0),
  (263, .istore 5, 2, 0, 0, 0, 0, 0),
  (265, .iinc 2 (-1), 3, 0, 0, 0, -1, 0),
  (268, .iload_n 2, 1, 144, 0, 0, 0, 0),
  (269, .ifCond .le 31, 3, 0, 159, 1, 0, 0),
  (272, .aload_n 0, 1, 0, 0, 0, 0, 0),
  (273, .getfield 84, 3, 0, 11, 36, 0, 0),
  (276, .iload_n 2, 1, 0, 0, 0, 0, 0),
  (277, .iaload, 1, 0, 30, 0, 0, 0),
  (278, .iconst 1, 1, 0, 0, 0, 1, 0),
  (279, .if_icmp .ne 21, 3, 0, 159, 1, 0, 0),
  (282, .iload 5, 2, 0, 0, 0, 0, 0),
  (284, .ifCond .ne 7, 3, 0, 2, 0, 0, 0),
  (287, .iconst 1, 1, 0, 0, 0, 1, 0),
  (288, .goto 4, 3, 0, 1, 0, 0, 0),
  (291, .iconst 0, 1, 0, 0, 0, 0, 0),
  (292, .istore 5, 2, 0, 0, 0, 0, 0),
  (294, .iinc 2 (-1), 3, 0, 0, 0, -1, 0),
  (297, .goto (-29), 3, 0, 143, 1, 0, 0),
  (300, .aload_n 0, 1, 160, 0, 0, 0, 0),
  (301, .getfield 78, 3, 0, 11, 34, 0, 0),
  (304, .iload_n 2, 1, 0, 0, 0, 0, 0),
  (305, .aload_n 0, 1, 0, 0, 0, 0, 0),
  (306, .getfield 81, 3, 0, 11, 35, 0, 0),
  (309, .iload_n 2, 1, 0, 0, 0, 0, 0),
  (310, .iaload, 1, 0, 30, 0, 0, 0),
  (311, .ifCond .ne 8, 3, 0, 2, 0, 0, 0),
  (314, .iload 5, 2, 0, 0, 0, 0, 0),
  (316, .goto 12, 3, 0, 6, 0, 0, 0),
  (319, .aload_n 0, 1, 0, 0, 0, 0, 0),
  (320, .getfield 78, 3, 0, 11, 34, 0, 0),
  (323, .iload_n 2, 1, 0, 0, 0, 0, 0),
  (324, .iaload, 1, 0, 30, 0, 0, 0),
  (325, .iload 5, 2, 0, 0, 0, 0, 0),
  (327, .imul, 1, 0, 0, 0, 0, 0),
  (328, .iastore, 1, 0, 30, 0, 0, 0),
  (329, .iinc 3 1, 3, 0, 0, 0, 1, 0),
  (332, .goto (-318), 3, 0, 10, 1, 0, 0),
  (335, .aload_n 0, 1, 0, 0, 0, 0, 0),
  (336, .iconst 0, 1, 0, 0, 0, 0, 0),
  (337, .invokevirtual 230, 3, 0, 15, 2, 0, 0),
  (340, .aload_n 0, 1, 0, 0, 0, 0, 0),
  (341, .getfield 60, 3, 0, 11, 28, 0, 0),
  (344, .iconst 0, 1, 0, 0, 0, 0, 0),
  (345, .iaload, 1, 0, 30, 0, 0, 0),
  (346, .ireturn, 1, 0, 0, 0, 0, 0)]
def lM16 (q : Nat) : Nat := cond (Nat.ble q 27) (cond (Nat.ble q 10) (15) (31)) (cond (Nat.ble q 72) (31) (cond (Nat.ble q 143) (47) (47)))
def kM17 : List aE := [(0, .aload_n 0, 1, 0, 0, 0, 0, 0),
  (1, .getfield 160, 3, 0, 11, 6, 0, 0),
  (4, .iconst 1, 1, 0, 0, 0, 1, 0),
  (5, .if_icmp .eq 5, 3, 0, 2, 0, 0, 0),
  (8, .iconst 1, 1, 0, 0, 0, 1, 0),
  (9, .ireturn, 1, 0, 1, 0, 0, 0),
  (10, .aload_n 0, 1, 0, 0, 0, 0, 0),
  (11, .getfield 153, 3, 0, 11, 7, 0, 0),
  (14, .ldc2_w 233, 3, 0, 0, 0, 0, 339782679),
  (17, .lcmp, 1, 0, 0, 0, 0, 0),
  (18, .ifCond .eq 223, 3, 0, 100, 0, 0, 0),
  (21, .aload_n 0, 1, 0, 0, 0, 0, 0),
  (22, .getfield 153, 3, 0, 11, 7, 0, 0),
  (25, .ldc2_w 235, 3, 0, 0, 0, 0, 464134),
  (28, .lcmp, 1, 0, 0, 0, 0, 0),
  (29, .ifCond .eq 212, 3, 0, 95, 0, 0, 0),
  (32, .aload_n 0, 1, 0, 0, 0, 0, 0),
  (33, .getfield 153, 3, 0, 11, 7, 0, 0),
  (36, .ldc2_w 237, 3, 0, 0, 0, 0, 129361),
  (39, .lcmp, 1, 0, 0, 0, 0, 0),
  (40, .ifCond .eq 201, 3, 0, 90, 0, 0, 0),
  (43, .aload_n 0, 1, 0, 0, 0, 0, 0),
  (44, .getfield 153, 3, 0, 11, 7, 0, 0),
  (47, .ldc2_w 239, 3, 0, 0, 0, 0, 332864552),
  (50, .lcmp, 1, 0, 0, 0, 0, 0),
  (51, .ifCond .eq 190, 3, 0, 85, 0, 0, 0),
  (54, .aload_n 0, 1, 0, 0, 0, 0, 0),
  (55, .getfield 153, 3, 0, 11, 7, 0, 0),
  (58, .ldc2_w 241, 3, 0, 0, 0, 0, 149125),
  (61, .lcmp, 1, 0, 0, 0, 0, 0),
  (62, .ifCond .eq 179, 3, 0, 80, 0, 0, 0),
  (65, .aload_n 0, 1, 0, 0, 0, 0, 0),
  (66, .getfield 153, 3, 0, 11, 7, 0, 0),
  (69, .ldc2_w 243, 3, 0, 0, 0, 0, 240023),
  (72, .lcmp, 1, 0, 0, 0, 0, 0),
  (73, .ifCond .eq 168, 3, 0, 75, 0, 0, 0),
  (76, .aload_n 0, 1, 0, 0, 0, 0, 0),
  (77, .getfield 153, 3, 0, 11, 7, 0, 0),
  (80, .ldc2_w 245, 3, 0, 0, 0, 0, 6562612),
  (83, .lcmp, 1, 0, 0, 0, 0, 0),
  (84, .ifCond .eq 157, 3, 0, 70, 0, 0, 0),
  (87, .aload_n 0, 1, 0, 0, 0, 0, 0),
  (88, .getfield 153, 3, 0, 11, 7, 0, 0),
  (91, .ldc2_w 247, 3, 0, 0, 0, 0, 1831769),
  (94, .lcmp, 1, 0, 0, 0, 0, 0),
  (95, .ifCond .eq 146, 3, 0, 65, 0, 0, 0),
  (98, .aload_n 0, 1, 0, 0, 0, 0, 0),
  (99, .getfield 153, 3, 0, 11, 7, 0, 0),
  (102, .ldc2_w 249, 3, 0, 0, 0, 0, 3492766),
  (105, .lcmp, 1, 0, 0, 0, 0, 0),
  (106, .ifCond .eq 135, 3, 0, 60, 0, 0, 0),
  (109, .aload_n 0, 1, 0, 0, 0, 0, 0),
  (110, .getfield 153, 3, 0, 11, 7, 0, 0),
  (113, .ldc2_w 251, 3, 0, 0, 0, 0, 339782680),
  (116, .lcmp, 1, 0, 0, 0, 0, 0),
  (117, .ifCond .eq 124, 3, 0, 55, 0, 0, 0),
  (120, .aload_n 0, 1, 0, 0, 0, 0, 0),
  (121, .getfield 153, 3, 0, 11, 7, 0, 0),
  (124, .ldc2_w 253, 3, 0, 0, 0, 0, 89821),
  (127, .lcmp, 1, 0, 0, 0, 0, 0),
  (128, .ifCond .eq 113, 3, 0, 50, 0, 0, 0),
  (131, .aload_n 0, 1, 0, 0, 0, 0, 0),
  (132, .getfield 153, 3, 0, 11, 7, 0, 0),
  (135, .ldc2_w 255, 3, 0, 0, 0, 0, 12584543),
  (138, .lcmp, 1, 0, 0, 0, 0, 0),
  (139, .ifCond .eq 102, 3, 0, 45, 0, 0, 0),
  (142, .aload_n 0, 1, 0, 0, 0, 0, 0),
  (143, .getfield 153, 3, 0, 11, 7, 0, 0),
  (146, .ldc2_w 257, 3, 0, 0, 0, 0, 55175),
  (149, .lcmp, 1, 0, 0, 0, 0, 0),
  (150, .ifCond .eq 91, 3, 0, 40, 0, 0, 0),
  (153, .aload_n 0, 1, 0, 0, 0, 0, 0),
  (154, .getfield 153, 3, 0, 11, 7, 0, 0),
  (157, .ldc2_w 259, 3, 0, 0, 0, 0, 316189),
  (160, .lcmp, 1, 0, 0, 0, 0, 0),
  (161, .ifCond .eq 80, 3, 0, 35, 0, 0, 0),
  (164, .aload_n 0, 1, 0, 0, 0, 0, 0),
  (165, .getfield 153, 3, 0, 11, 7, 0, 0),
  (168, .ldc2_w 261, 3, 0, 0, 0, 0, 8740238),
  (171, .lcmp, 1, 0, 0, 0, 0, 0),
  (172, .ifCond .eq 69, 3, 0, 30, 0, 0, 0),
  (175, .aload_n 0, 1, 0, 0, 0, 0, 0),
  (176, .getfield 153, 3, 0, 11, 7, 0, 0),
  (179, .ldc2_w 263, 3, 0, 0, 0, 0, 459788),
  (182, .lcmp, 1, 0, 0, 0, 0, 0),
  (183, .ifCond .eq 58, 3, 0, 25, 0, 0, 0),
  (186, .aload_n 0, 1, 0, 0, 0, 0, 0),
  (187, .getfield 153, 3, 0, 11, 7, 0, 0),
  (190, .ldc2_w 265, 3, 0, 0, 0, 0, 459598),
  (193, .lcmp, 1, 0, 0, 0, 0, 0),
  (194, .ifCond .eq 47, 3, 0, 20, 0, 0, 0),
  (197, .aload_n 0, 1, 0, 0, 0, 0, 0),
  (198, .getfield 153, 3, 0, 11, 7, 0, 0),
  (201, .ldc2_w 267, 3, 0, 0, 0, 0, 14200),
  (204, .lcmp, 1, 0, 0, 0, 0, 0),
  (205, .ifCond .eq 36, 3, 0, 15, 0, 0, 0),
  (208, .aload_n 0, 1, 0, 0, 0, 0, 0),
  (209, .getfield 153, 3, 0, 11, 7, 0, 0),
  (212, .ldc2_w 200, 3, 0, 0, 0, 0, 10631),
  (215, .lcmp, 1, 0, 0, 0, 0, 0),
  (216, .ifCond .eq 25, 3, 0, 10, 0, 0, 0),
  (219, .aload_n 0, 1, 0, 0, 0, 0, 0),
  (220, .getfield 153, 3, 0, 11, 7, 0, 0),
  (223, .ldc2_w 220, 3, 0, 0, 0, 0, 1111),
  (226, .lcmp, 1, 0, 0, 0, 0, 0),
  (227, .ifCond .eq 14, 3, 0, 5, 0, 0, 0),
  (230, .aload_n 0, 1, 0, 0, 0, 0, 0),
  (231, .getfield 153, 3, 0, 11, 7, 0, 0),
  (234, .ldc2_w 222, 3, 0, 0, 0, 0, 423),
  (237, .lcmp, 1, 0, 0, 0, 0, 0),
  (238, .ifCond .ne 7, 3, 0, 2, 0, 0, 0),
  (241, .iconst 1, 1, 0, 0, 0, 1, 0),
  (242, .goto 4, 3, 0, 1, 0, 0, 0),
  (245, .iconst 0, 1, 0, 0, 0, 0, 0),
  (246, .ireturn, 1, 0, 1, 0, 0, 0)]
def lM17 (q : Nat) : Nat := 0
def kM18 : List aE := [(0, .iconst 5, 1, 0, 0, 0, 5, 0),
  (1, .istore_n 1, 1, 0, 0, 0, 0, 0),
  (2, .iload_n 1, 1, 3, 0, 0, 0, 0),
  (3, .iconst 5, 1, 0, 0, 0, 5, 0),
  (4, .aload_n 0, 1, 0, 0, 0, 0, 0),
  (5, .getfield 13, 3, 0, 11, 10, 0, 0),
  (8, .iconst 4, 1, 0, 0, 0, 4, 0),
  (9, .iaload, 1, 0, 30, 0, 0, 0),
  (10, .iadd, 1, 0, 0, 0, 0, 0),
  (11, .if_icmp .ge 27, 3, 0, 14, 0, 0, 0),
  (14, .aload_n 0, 1, 0, 0, 0, 0, 0),
  (15, .getfield 16, 3, 0, 11, 11, 0, 0),
  (18, .iload_n 1, 1, 0, 0, 0, 0, 0),
  (19, .laload, 1, 0, 31, 0, 0, 0),
  (20, .aload_n 0, 1, 0, 0, 0, 0, 0),
  (21, .getfield 153, 3, 0, 11, 7, 0, 0),
  (24, .lcmp, 1, 0, 0, 0, 0, 0),
  (25, .ifCond .ne 7, 3, 0, 4, 0, 0, 0),
  (28, .iload_n 1, 1, 0, 0, 0, 0, 0),
  (29, .iconst 5, 1, 0, 0, 0, 5, 0),
  (30, .isub, 1, 0, 0, 0, 0, 0),
  (31, .ireturn, 1, 0, 0, 0, 0, 0),
  (32, .iinc 1 1, 3, 0, 0, 0, 1, 0),
  (35, .goto (-33), 3, 0, 2, 1, 0, 0),
  (38, .iconst (-1), 1, 0, 0, 0, -1, 0),
  (39, .ireturn, 1, 0, 0, 0, 0, 0)]
def lM18 (q : Nat) : Nat := 3
def kM19 : List aE := [(0, .bipush 12, 2, 0, 0, 0, 12, 0),
  (2, .iload_n 1, 1, 0, 0, 0, 0, 0),
  (3, .imul, 1, 0, 0, 0, 0, 0),
  (4, .istore_n 2, 1, 0, 0, 0, 0, 0),
  (5, .iload_n 2, 1, 5, 0, 0, 0, 0),
  (6, .bipush 12, 2, 0, 0, 0, 12, 0),
  (8, .iload_n 1, 1, 0, 0, 0, 0, 0),
  (9, .imul, 1, 0, 0, 0, 0, 0),
  (10, .aload_n 0, 1, 0, 0, 0, 0, 0),
  (11, .getfield 13, 3, 0, 11, 10, 0, 0),
  (14, .iconst 4, 1, 0, 0, 0, 4, 0),
  (15, .iload_n 1, 1, 0, 0, 0, 0, 0),
  (16, .imul, 1, 0, 0, 0, 0, 0),
  (17, .iconst 1, 1, 0, 0, 0, 1, 0),
  (18, .iadd, 1, 0, 0, 0, 0, 0),
  (19, .iaload, 1, 0, 30, 0, 0, 0),
  (20, .iadd, 1, 0, 0, 0, 0, 0),
  (21, .if_icmp .ge 30, 3, 0, 16, 0, 0, 0),
  (24, .aload_n 0, 1, 0, 0, 0, 0, 0),
  (25, .getfield 20, 3, 0, 11, 12, 0, 0),
  (28, .iload_n 2, 1, 0, 0, 0, 0, 0),
  (29, .laload, 1, 0, 31, 0, 0, 0),
  (30, .aload_n 0, 1, 0, 0, 0, 0, 0),
  (31, .getfield 153, 3, 0, 11, 7, 0, 0),
  (34, .lcmp, 1, 0, 0, 0, 0, 0),
  (35, .ifCond .ne 10, 3, 0, 6, 0, 0, 0),
  (38, .iload_n 2, 1, 0, 0, 0, 0, 0),
  (39, .bipush 12, 2, 0, 0, 0, 12, 0),
  (41, .iload_n 1, 1, 0, 0, 0, 0, 0),
  (42, .imul, 1, 0, 0, 0, 0, 0),
  (43, .isub, 1, 0, 0, 0, 0, 0),
  (44, .ireturn, 1, 0, 0, 0, 0, 0),
  (45, .iinc 2 1, 3, 0, 0, 0, 1, 0),
  (48, .goto (-43), 3, 0, 4, 1, 0, 0),
  (51, .iconst (-1), 1, 0, 0, 0, -1, 0),
  (52, .ireturn, 1, 0, 0, 0, 0, 0)]
def lM19 (q : Nat) : Nat := 7
def kM20 : List aE := [(0, .aload_n 0, 1, 0, 0, 0, 0, 0),
  (1, .getfield 160, 3, 0, 11, 6, 0, 0),
  (4, .iconst 2, 1, 0, 0, 0, 2, 0),
  (5, .if_icmp .eq 9, 3, 0, 4, 0, 0, 0),
  (8, .aload_n 0, 1, 0, 0, 0, 0, 0),
  (9, .iconst 1, 1, 0, 0, 0, 1, 0),
  (10, .invokevirtual 210, 3, 0, 9, 18, 0, 0),
  (13, .ireturn, 1, 0, 1, 0, 0, 0),
  (14, .aload_n 0, 1, 0, 0, 0, 0, 0),
  (15, .getfield 157, 3, 0, 11, 8, 0, 0),
  (18, .iload_n 1, 1, 0, 0, 0, 0, 0),
  (19, .iload_n 2, 1, 0, 0, 0, 0, 0),
  (20, .invokestatic 269, 3, 0, 1, 19, 0, 0),
  (23, .ifCond .ne 9, 3, 0, 4, 0, 0, 0),
  (26, .aload_n 0, 1, 0, 0, 0, 0, 0),
  (27, .iconst 4, 1, 0, 0, 0, 4, 0),
  (28, .invokevirtual 210, 3, 0, 9, 18, 0, 0),
  (31, .ireturn, 1, 0, 1, 0, 0, 0),
  (32, .aload_n 0, 1, 0, 0, 0, 0, 0),
  (33, .aload_n 0, 1, 0, 0, 0, 0, 0),
  (34, .getfield 157, 3, 0, 11, 8, 0, 0),
  (37, .putfield 273, 3, 0, 11, 38, 0, 0),
  (40, .aload_n 0, 1, 0, 0, 0, 0, 0),
  (41, .invokevirtual 217, 3, 0, 6, 1, 0, 0),
  (44, .iconst 1, 1, 0, 0, 0, 1, 0),
  (45, .ireturn, 1, 0, 1, 0, 0, 0)]
def lM20 (q : Nat) : Nat := 0
def kM21 : List aE := [(0, .aload_n 0, 1, 0, 0, 0, 0, 0),
  (1, .lload_n 1, 1, 0, 0, 0, 0, 0),
  (2, .invokevirtual 202, 3, 0, 7, 18, 0, 0),
  (5, .ifCond .ne 9, 3, 0, 4, 0, 0, 0),
  (8, .aload_n 0, 1, 0, 0, 0, 0, 0),
  (9, .iconst 1, 1, 0, 0, 0, 1, 0),
  (10, .invokevirtual 210, 3, 0, 9, 18, 0, 0),
  (13, .ireturn, 1, 0, 1, 0, 0, 0),
  (14, .aload_n 0, 1, 0, 0, 0, 0, 0),
  (15, .invokevirtual 217, 3, 0, 6, 1, 0, 0),
  (18, .aload_n 0, 1, 0, 0, 0, 0, 0),
  (19, .iload_n 3, 1, 0, 0, 0, 0, 0),
  (20, .iload 4, 2, 0, 0, 0, 0, 0),
  (22, .invokevirtual 276, 3, 0, 20, 19, 0, 0),
  (25, .ireturn, 1, 0, 1, 0, 0, 0)]
def lM21 (q : Nat) : Nat := 0
def kM22 : List aE := [(0, .aload_n 0, 1, 0, 0, 0, 0, 0),
  (1, .bipush 59, 2, 0, 0, 0, 59, 0),
  (3, .invokevirtual 206, 3, 0, 8, 18, 0, 0),
  (6, .ifCond .ne 9, 3, 0, 4, 0, 0, 0),
  (9, .aload_n 0, 1, 0, 0, 0, 0, 0),
  (10, .iconst 1, 1, 0, 0, 0, 1, 0),
  (11, .invokevirtual 210, 3, 0, 9, 18, 0, 0),
  (14, .ireturn, 1, 0, 1, 0, 0, 0),
  (15, .aload_n 0, 1, 0, 0, 0, 0, 0),
  (16, .invokevirtual 217, 3, 0, 6, 1, 0, 0),
  (19, .iconst 1, 1, 0, 0, 0, 1, 0),
  (20, .ireturn, 1, 0, 1, 0, 0, 0)]
def lM22 (q : Nat) : Nat := 0
def kM23 : List aE := [(0, .aload_n 0, 1, 0, 0, 0, 0, 0),
  (1, .invokevirtual 280, 3, 0, 17, 17, 0, 0),
  (4, .ifCond .eq 9, 3, 0, 4, 0, 0, 0),
  (7, .aload_n 0, 1, 0, 0, 0, 0, 0),
  (8, .iconst 1, 1, 0, 0, 0, 1, 0),
  (9, .invokevirtual 210, 3, 0, 9, 18, 0, 0),
  (12, .ireturn, 1, 0, 1, 0, 0, 0),
  (13, .aload_n 0, 1, 0, 0, 0, 0, 0),
  (14, .invokevirtual 284, 3, 0, 18, 17, 0, 0),
  (17, .ifCond .ge 11, 3, 0, 4, 0, 0, 0),
  (20, .aload_n 0, 1, 0, 0, 0, 0, 0),
  (21, .iconst 1, 1, 0, 0, 0, 1, 0),
  (22, .invokevirtual 287, 3, 0, 19, 18, 0, 0),
  (25, .ifCond .lt 9, 3, 0, 4, 0, 0, 0),
  (28, .aload_n 0, 1, 0, 0, 0, 0, 0),
  (29, .iconst 3, 1, 0, 0, 0, 3, 0),
  (30, .invokevirtual 210, 3, 0, 9, 18, 0, 0),
  (33, .ireturn, 1, 0, 1, 0, 0, 0),
  (34, .aload_n 0, 1, 0, 0, 0, 0, 0),
  (35, .aload_n 0, 1, 0, 0, 0, 0, 0),
  (36, .getfield 153, 3, 0, 11, 7, 0, 0),
  (39, .putfield 290, 3, 0, 11, 39, 0, 0),
  (42, .aload_n 0, 1, 0, 0, 0, 0, 0),
  (43, .invokevirtual 217, 3, 0, 6, 1, 0, 0),
  (46, .iconst 1, 1, 0, 0, 0, 1, 0),
  (47, .ireturn, 1, 0, 1, 0, 0, 0)]
def lM23 (q : Nat) : Nat := 0
def kM24 : List aE := [(0, .aload_n 0, 1, 0, 0, 0, 0, 0),
  (1, .invokevirtual 280, 3, 0, 17, 17, 0, 0),
  (4, .ifCond .eq 9, 3, 0, 4, 0, 0, 0),
  (7, .aload_n 0, 1, 0, 0, 0, 0, 0),
  (8, .iconst 1, 1, 0, 0, 0, 1, 0),
  (9, .invokevirtual 210, 3, 0, 9, 18, 0, 0),
  (12, .ireturn, 1, 0, 1, 0, 0, 0),
  (13, .aload_n 0, 1, 0, 0, 0, 0, 0),
  (14, .aload_n 0, 1, 0, 0, 0, 0, 0),
  (15, .iload_n 1, 1, 0, 0, 0, 0, 0),
  (16, .invokevirtual 287, 3, 0, 19, 18, 0, 0),
  (19, .putfield 273, 3, 0, 11, 38, 0, 0),
  (22, .aload_n 0, 1, 0, 0, 0, 0, 0),
  (23, .getfield 273, 3, 0, 11, 38, 0, 0),
  (26, .ifCond .ge 11, 3, 0, 4, 0, 0, 0),
  (29, .aload_n 0, 1, 0, 0, 0, 0, 0),
  (30, .iconst 2, 1, 0, 0, 0, 2, 0),
  (31, .invokevirtual 210, 3, 0, 9, 18, 0, 0),
  (34, .ifCond .eq 7, 3, 0, 2, 0, 0, 0),
  (37, .iconst 1, 1, 0, 0, 0, 1, 0),
  (38, .goto 4, 3, 0, 1, 0, 0, 0),
  (41, .iconst 0, 1, 0, 0, 0, 0, 0),
  (42, .ireturn, 1, 0, 1, 0, 0, 0)]
def lM24 (q : Nat) : Nat := 0
def kM25 : List aE := [(0, .iconst 5, 1, 0, 0, 0, 5, 0),
  (1, .aload_n 0, 1, 0, 0, 0, 0, 0),
  (2, .getfield 13, 3, 0, 11, 10, 0, 0),
  (5, .iconst 4, 1, 0, 0, 0, 4, 0),
  (6, .iaload, 1, 0, 30, 0, 0, 0),
  (7, .iadd, 1, 0, 0, 0, 0, 0),
  (8, .istore_n 1, 1, 0, 0, 0, 0, 0),
  (9, .iload_n 1, 1, 0, 0, 0, 0, 0),
  (10, .bipush 10, 2, 0, 0, 0, 10, 0),
  (12, .if_icmp .ne 9, 3, 0, 4, 0, 0, 0),
  (15, .aload_n 0, 1, 0, 0, 0, 0, 0),
  (16, .iconst 5, 1, 0, 0, 0, 5, 0),
  (17, .invokevirtual 210, 3, 0, 9, 18, 0, 0),
  (20, .ireturn, 1, 0, 1, 0, 0, 0),
  (21, .aload_n 0, 1, 0, 0, 0, 0, 0),
  (22, .invokevirtual 217, 3, 0, 6, 1, 0, 0),
  (25, .aload_n 0, 1, 0, 0, 0, 0, 0),
  (26, .invokevirtual 292, 3, 0, 23, 17, 0, 0),
  (29, .ifCond .ne 5, 3, 0, 2, 0, 0, 0),
  (32, .iconst 0, 1, 0, 0, 0, 0, 0),
  (33, .ireturn, 1, 0, 1, 0, 0, 0),
  (34, .aload_n 0, 1, 0, 0, 0, 0, 0),
  (35, .getfield 23, 3, 0, 11, 13, 0, 0),
  (38, .iload_n 1, 1, 0, 0, 0, 0, 0),
  (39, .aload_n 0, 1, 0, 0, 0, 0, 0),
  (40, .ldc2_w 261, 3, 0, 0, 0, 0, 8740238),
  (43, .invokevirtual 202, 3, 0, 7, 18, 0, 0),
  (46, .ifCond .eq 7, 3, 0, 2, 0, 0, 0),
  (49, .iconst 0, 1, 0, 0, 0, 0, 0),
  (50, .goto 46, 3, 0, 19, 0, 0, 0),
  (53, .aload_n 0, 1, 0, 0, 0, 0, 0),
  (54, .ldc2_w 263, 3, 0, 0, 0, 0, 459788),
  (57, .invokevirtual 202, 3, 0, 7, 18, 0, 0),
  (60, .ifCond .eq 7, 3, 0, 2, 0, 0, 0),
  (63, .iconst 1, 1, 0, 0, 0, 1, 0),
  (64, .goto 32, 3, 0, 13, 0, 0, 0),
  (67, .aload_n 0, 1, 0, 0, 0, 0, 0),
  (68, .ldc2_w 265, 3, 0, 0, 0, 0, 459598),
  (71, .invokevirtual 202, 3, 0, 7, 18, 0, 0),
  (74, .ifCond .eq 7, 3, 0, 2, 0, 0, 0),
  (77, .iconst 2, 1, 0, 0, 0, 2, 0),
  (78, .goto 18, 3, 0, 7, 0, 0, 0),
  (81, .aload_n 0, 1, 0, 0, 0, 0, 0),
  (82, .ldc2_w 267, 3, 0, 0, 0, 0, 14200),
  (85, .invokevirtual 202, 3, 0, 7, 18, 0, 0),
  (88, .ifCond .eq 7, 3, 0, 2, 0, 0, 0),
  (91, .iconst 3, 1, 0, 0, 0, 3, 0),
  (92, .goto 4, 3, 0, 1, 0, 0, 0),
  (95, .iconst (-1), 1, 0, 0, 0, -1, 0),
  (96, .iastore, 1, 0, 30, 0, 0, 0),
  (97, .aload_n 0, 1, 0, 0, 0, 0, 0),
  (98, .getfield 23, 3, 0, 11, 13, 0, 0),
  (101, .iload_n 1, 1, 0, 0, 0, 0, 0),
  (102, .iaload, 1, 0, 30, 0, 0, 0),
  (103, .ifCond .ge 9, 3, 0, 4, 0, 0, 0),
  (106, .aload_n 0, 1, 0, 0, 0, 0, 0),
  (107, .iconst 1, 1, 0, 0, 0, 1, 0),
  (108, .invokevirtual 210, 3, 0, 9, 18, 0, 0),
  (111, .ireturn, 1, 0, 1, 0, 0, 0),
  (112, .aload_n 0, 1, 0, 0, 0, 0, 0),
  (113, .invokevirtual 217, 3, 0, 6, 1, 0, 0),
  (116, .iconst 0, 1, 0, 0, 0, 0, 0),
  (117, .istore_n 2, 1, 0, 0, 0, 0, 0),
  (118, .iload_n 2, 1, 64, 0, 0, 0, 0),
  (119, .bipush 12, 2, 0, 0, 0, 12, 0),
  (121, .if_icmp .ge 21, 3, 0, 11, 0, 0, 0),
  (124, .aload_n 0, 1, 0, 0, 0, 0, 0),
  (125, .getfield 38, 3, 0, 11, 18, 0, 0),
  (128, .bipush 12, 2, 0, 0, 0, 12, 0),
  (130, .iload_n 1, 1, 0, 0, 0, 0, 0),
  (131, .imul, 1, 0, 0, 0, 0, 0),
  (132, .iload_n 2, 1, 0, 0, 0, 0, 0),
  (133, .iadd, 1, 0, 0, 0, 0, 0),
  (134, .iconst 0, 1, 0, 0, 0, 0, 0),
  (135, .iastore, 1, 0, 30, 0, 0, 0),
  (136, .iinc 2 1, 3, 0, 0, 0, 1, 0),
  (139, .goto (-21), 3, 0, 63, 1, 0, 0),
  (142, .aload_n 0, 1, 0, 0, 0, 0, 0),
  (143, .getfield 16, 3, 0, 11, 11, 0, 0),
  (146, .iload_n 1, 1, 0, 0, 0, 0, 0),
  (147, .aload_n 0, 1, 0, 0, 0, 0, 0),
  (148, .getfield 290, 3, 0, 11, 39, 0, 0),
  (151, .lastore, 1, 0, 31, 0, 0, 0),
  (152, .aload_n 0, 1, 0, 0, 0, 0, 0),
  (153, .getfield 13, 3, 0, 11, 10, 0, 0),
  (156, .iconst 4, 1, 0, 0, 0, 4, 0),
  (157, .dup2, 1, 0, 0, 0, 0, 0),
  (158, .iaload, 1, 0, 30, 0, 0, 0),
  (159, .iconst 1, 1, 0, 0, 0, 1, 0),
  (160, .iadd, 1, 0, 0, 0, 0, 0),
  (161, .iastore, 1, 0, 30, 0, 0, 0),
  (162, .aload_n 0, 1, 0, 0, 0, 0, 0),
  (163, .invokevirtual 295, 3, 0, 22, 17, 0, 0),
  (166, .ireturn, 1, 0, 1, 0, 0, 0)]
def lM25 (q : Nat) : Nat := 7
def kM26 : List aE := [(0, .bipush 12, 2, 0, 0, 0, 12, 0),
  (2, .aload_n 0, 1, 0, 0, 0, 0, 0),
  (3, .getfield 13, 3, 0, 11, 10, 0, 0),
  (6, .iconst 5, 1, 0, 0, 0, 5, 0),
  (7, .iaload, 1, 0, 30, 0, 0, 0),
  (8, .iadd, 1, 0, 0, 0, 0, 0),
  (9, .istore_n 1, 1, 0, 0, 0, 0, 0),
  (10, .iload_n 1, 1, 0, 0, 0, 0, 0),
  (11, .bipush 24, 2, 0, 0, 0, 24, 0),
  (13, .if_icmp .ne 9, 3, 0, 4, 0, 0, 0),
  (16, .aload_n 0, 1, 0, 0, 0, 0, 0),
  (17, .iconst 5, 1, 0, 0, 0, 5, 0),
  (18, .invokevirtual 210, 3, 0, 9, 18, 0, 0),
  (21, .ireturn, 1, 0, 1, 0, 0, 0),
  (22, .aload_n 0, 1, 0, 0, 0, 0, 0),
  (23, .invokevirtual 217, 3, 0, 6, 1, 0, 0),
  (26, .aload_n 0, 1, 0, 0, 0, 0, 0),
  (27, .invokevirtual 292, 3, 0, 23, 17, 0, 0),
  (30, .ifCond .eq 15, 3, 0, 6, 0, 0, 0),
  (33, .aload_n 0, 1, 0, 0, 0, 0, 0),
  (34, .ldc2_w 237, 3, 0, 0, 0, 0, 129361),
  (37, .iconst 0, 1, 0, 0, 0, 0, 0),
  (38, .iconst 3, 1, 0, 0, 0, 3, 0),
  (39, .invokevirtual 298, 3, 0, 21, 20, 0, 0),
  (42, .ifCond .ne 5, 3, 0, 2, 0, 0, 0),
  (45, .iconst 0, 1, 0, 0, 0, 0, 0),
  (46, .ireturn, 1, 0, 1, 0, 0, 0),
  (47, .aload_n 0, 1, 0, 0, 0, 0, 0),
  (48, .getfield 26, 3, 0, 11, 14, 0, 0),
  (51, .iload_n 1, 1, 0, 0, 0, 0, 0),
  (52, .aload_n 0, 1, 0, 0, 0, 0, 0),
  (53, .getfield 273, 3, 0, 11, 38, 0, 0),
  (56, .iastore, 1, 0, 30, 0, 0, 0),
  (57, .aload_n 0, 1, 0, 0, 0, 0, 0),
  (58, .ldc2_w 239, 3, 0, 0, 0, 0, 332864552),
  (61, .iconst 0, 1, 0, 0, 0, 0, 0),
  (62, .bipush 9, 2, 0, 0, 0, 9, 0),
  (64, .invokevirtual 298, 3, 0, 21, 20, 0, 0),
  (67, .ifCond .ne 5, 3, 0, 41, 1, 0, 0),
  (70, .iconst 0, 1, 0, 0, 0, 0, 0),
  (71, .ireturn, 1, 0, 1, 0, 0, 0),
  (72, .aload_n 0, 1, 42, 0, 0, 0, 0),
  (73, .getfield 29, 3, 0, 11, 15, 0, 0),
  (76, .iload_n 1, 1, 0, 0, 0, 0, 0),
  (77, .aload_n 0, 1, 0, 0, 0, 0, 0),
  (78, .getfield 273, 3, 0, 11, 38, 0, 0),
  (81, .iastore, 1, 0, 30, 0, 0, 0),
  (82, .aload_n 0, 1, 0, 0, 0, 0, 0),
  (83, .ldc2_w 241, 3, 0, 0, 0, 0, 149125),
  (86, .iconst 0, 1, 0, 0, 0, 0, 0),
  (87, .bipush 20, 2, 0, 0, 0, 20, 0),
  (89, .invokevirtual 298, 3, 0, 21, 20, 0, 0),
  (92, .ifCond .ne 5, 3, 0, 2, 0, 0, 0),
  (95, .iconst 0, 1, 0, 0, 0, 0, 0),
  (96, .ireturn, 1, 0, 1, 0, 0, 0),
  (97, .aload_n 0, 1, 0, 0, 0, 0, 0),
  (98, .getfield 32, 3, 0, 11, 16, 0, 0),
  (101, .iload_n 1, 1, 0, 0, 0, 0, 0),
  (102, .aload_n 0, 1, 0, 0, 0, 0, 0),
  (103, .getfield 273, 3, 0, 11, 38, 0, 0),
  (106, .iastore, 1, 0, 30, 0, 0, 0),
  (107, .aload_n 0, 1, 0, 0, 0, 0, 0),
  (108, .ldc2_w 243, 3, 0, 0, 0, 0, 240023),
  (111, .iconst 0, 1, 0, 0, 0, 0, 0),
  (112, .bipush 9, 2, 0, 0, 0, 9, 0),
  (114, .invokevirtual 298, 3, 0, 21, 20, 0, 0),
  (117, .ifCond .ne 5, 3, 0, 2, 0, 0, 0),
  (120, .iconst 0, 1, 0, 0, 0, 0, 0),
  (121, .ireturn, 1, 0, 1, 0, 0, 0),
  (122, .aload_n 0, 1, 0, 0, 0, 0, 0),
  (123, .getfield 35, 3, 0, 11, 17, 0, 0),
  (126, .iload_n 1, 1, 0, 0, 0, 0, 0),
  (127, .aload_n 0, 1, 0, 0, 0, 0, 0),
  (128, .getfield 273, 3, 0, 11, 38, 0, 0),
  (131, .iastore, 1, 0, 30, 0, 0, 0),
  (132, .aload_n 0, 1, 0, 0, 0, 0, 0),
  (133, .getfield 41, 3, 0, 11, 19, 0, 0),
  (136, .iload_n 1, 1, 0, 0, 0, 0, 0),
  (137, .iconst 0, 1, 0, 0, 0, 0, 0),
  (138, .iastore, 1, 0, 30, 0, 0, 0),
  (139, .aload_n 0, 1, 0, 0, 0, 0, 0),
  (140, .getfield 20, 3, 0, 11, 12, 0, 0),
  (143, .iload_n 1, 1, 0, 0, 0, 0, 0),
  (144, .aload_n 0, 1, 0, 0, 0, 0, 0),
  (145, .getfield 290, 3, 0, 11, 39, 0, 0),
  (148, .lastore, 1, 0, 31, 0, 0, 0),
  (149, .aload_n 0, 1, 0, 0, 0, 0, 0),
  (150, .getfield 13, 3, 0, 11, 10, 0, 0),
  (153, .iconst 5, 1, 0, 0, 0, 5, 0),
  (154, .dup2, 1, 0, 0, 0, 0, 0),
  (155, .iaload, 1, 0, 30, 0, 0, 0),
  (156, .iconst 1, 1, 0, 0, 0, 1, 0),
  (157, .iadd, 1, 0, 0, 0, 0, 0),
  (158, .iastore, 1, 0, 30, 0, 0, 0),
  (159, .aload_n 0, 1, 0, 0, 0, 0, 0),
  (160, .invokevirtual 295, 3, 0, 22, 17, 0, 0),
  (163, .ireturn, 1, 0, 1, 0, 0, 0)]
def lM26 (q : Nat) : Nat := 3
def kM27 : List aE := [(0, .aload_n 0, 1, 0, 0, 0, 0, 0),
  (1, .invokevirtual 217, 3, 0, 6, 1, 0, 0),
  (4, .aload_n 0, 1, 0, 0, 0, 0, 0),
  (5, .invokevirtual 280, 3, 0, 17, 17, 0, 0),
  (8, .ifCond .eq 9, 3, 0, 4, 0, 0, 0),
  (11, .aload_n 0, 1, 0, 0, 0, 0, 0),
  (12, .iconst 1, 1, 0, 0, 0, 1, 0),
  (13, .invokevirtual 210, 3, 0, 9, 18, 0, 0),
  (16, .ireturn, 1, 0, 1, 0, 0, 0),
  (17, .aload_n 0, 1, 0, 0, 0, 0, 0),
  (18, .invokevirtual 284, 3, 0, 18, 17, 0, 0),
  (21, .istore_n 1, 1, 0, 0, 0, 0, 0),
  (22, .iload_n 1, 1, 0, 0, 0, 0, 0),
  (23, .ifCond .ge 9, 3, 0, 4, 0, 0, 0),
  (26, .aload_n 0, 1, 0, 0, 0, 0, 0),
  (27, .iconst 2, 1, 0, 0, 0, 2, 0),
  (28, .invokevirtual 210, 3, 0, 9, 18, 0, 0),
  (31, .ireturn, 1, 0, 1, 0, 0, 0),
  (32, .aload_n 0, 1, 0, 0, 0, 0, 0),
  (33, .invokevirtual 217, 3, 0, 6, 1, 0, 0),
  (36, .aload_n 0, 1, 0, 0, 0, 0, 0),
  (37, .iconst 1, 1, 0, 0, 0, 1, 0),
  (38, .invokevirtual 302, 3, 0, 24, 18, 0, 0),
  (41, .ifCond .ne 5, 3, 0, 2, 0, 0, 0),
  (44, .iconst 0, 1, 0, 0, 0, 0, 0),
  (45, .ireturn, 1, 0, 1, 0, 0, 0),
  (46, .bipush 60, 2, 0, 0, 0, 60, 0),
  (48, .bipush 12, 2, 0, 0, 0, 12, 0),
  (50, .iload_n 1, 1, 0, 0, 0, 0, 0),
  (51, .imul, 1, 0, 0, 0, 0, 0),
  (52, .iadd, 1, 0, 0, 0, 0, 0),
  (53, .aload_n 0, 1, 0, 0, 0, 0, 0),
  (54, .getfield 273, 3, 0, 11, 38, 0, 0),
  (57, .iadd, 1, 0, 0, 0, 0, 0),
  (58, .istore_n 2, 1, 0, 0, 0, 0, 0),
  (59, .aload_n 0, 1, 0, 0, 0, 0, 0),
  (60, .getfield 38, 3, 0, 11, 18, 0, 0),
  (63, .iload_n 2, 1, 0, 0, 0, 0, 0),
  (64, .iaload, 1, 0, 30, 0, 0, 0),
  (65, .ifCond .le 9, 3, 0, 4, 0, 0, 0),
  (68, .aload_n 0, 1, 0, 0, 0, 0, 0),
  (69, .iconst 3, 1, 0, 0, 0, 3, 0),
  (70, .invokevirtual 210, 3, 0, 9, 18, 0, 0),
  (73, .ireturn, 1, 0, 1, 0, 0, 0),
  (74, .aload_n 0, 1, 0, 0, 0, 0, 0),
  (75, .invokevirtual 217, 3, 0, 6, 1, 0, 0),
  (78, .aload_n 0, 1, 0, 0, 0, 0, 0),
  (79, .iconst 1, 1, 0, 0, 0, 1, 0),
  (80, .bipush 9, 2, 0, 0, 0, 9, 0),
  (82, .invokevirtual 276, 3, 0, 20, 19, 0, 0),
  (85, .ifCond .ne 5, 3, 0, 2, 0, 0, 0),
  (88, .iconst 0, 1, 0, 0, 0, 0, 0),
  (89, .ireturn, 1, 0, 1, 0, 0, 0),
  (90, .aload_n 0, 1, 0, 0, 0, 0, 0),
  (91, .getfield 38, 3, 0, 11, 18, 0, 0),
  (94, .iload_n 2, 1, 0, 0, 0, 0, 0),
  (95, .aload_n 0, 1, 0, 0, 0, 0, 0),
  (96, .getfield 273, 3, 0, 11, 38, 0, 0),
  (99, .iastore, 1, 0, 30, 0, 0, 0),
  (100, .aload_n 0, 1, 0, 0, 0, 0, 0),
  (101, .invokevirtual 295, 3, 0, 22, 17, 0, 0),
  (104, .ireturn, 1, 0, 1, 0, 0, 0)]
def lM27 (q : Nat) : Nat := 0
def kM28 : List aE := [(0, .aload_n 0, 1, 0, 0, 0, 0, 0),
  (1, .invokevirtual 217, 3, 0, 6, 1, 0, 0),
  (4, .aload_n 0, 1, 0, 0, 0, 0, 0),
  (5, .iconst 1, 1, 0, 0, 0, 1, 0),
  (6, .invokevirtual 302, 3, 0, 24, 18, 0, 0),
  (9, .ifCond .ne 5, 3, 0, 2, 0, 0, 0),
  (12, .iconst 0, 1, 0, 0, 0, 0, 0),
  (13, .ireturn, 1, 0, 1, 0, 0, 0),
  (14, .aload_n 0, 1, 0, 0, 0, 0, 0),
  (15, .getfield 273, 3, 0, 11, 38, 0, 0),
  (18, .istore_n 1, 1, 0, 0, 0, 0, 0),
  (19, .aload_n 0, 1, 0, 0, 0, 0, 0),
  (20, .invokevirtual 217, 3, 0, 6, 1, 0, 0),
  (23, .aload_n 0, 1, 0, 0, 0, 0, 0),
  (24, .iconst 1, 1, 0, 0, 0, 1, 0),
  (25, .invokevirtual 302, 3, 0, 24, 18, 0, 0),
  (28, .ifCond .ne 5, 3, 0, 2, 0, 0, 0),
  (31, .iconst 0, 1, 0, 0, 0, 0, 0),
  (32, .ireturn, 1, 0, 1, 0, 0, 0),
  (33, .iload_n 1, 1, 0, 0, 0, 0, 0),
  (34, .aload_n 0, 1, 0, 0, 0, 0, 0),
  (35, .getfield 273, 3, 0, 11, 38, 0, 0),
  (38, .if_icmp .eq 23, 3, 0, 13, 0, 0, 0),
  (41, .aload_n 0, 1, 0, 0, 0, 0, 0),
  (42, .getfield 41, 3, 0, 11, 19, 0, 0),
  (45, .bipush 12, 2, 0, 0, 0, 12, 0),
  (47, .iload_n 1, 1, 0, 0, 0, 0, 0),
  (48, .iadd, 1, 0, 0, 0, 0, 0),
  (49, .iaload, 1, 0, 30, 0, 0, 0),
  (50, .aload_n 0, 1, 0, 0, 0, 0, 0),
  (51, .getfield 273, 3, 0, 11, 38, 0, 0),
  (54, .ishr, 1, 0, 0, 0, 0, 0),
  (55, .iconst 1, 1, 0, 0, 0, 1, 0),
  (56, .iand, 1, 0, 0, 0, 0, 0),
  (57, .iconst 1, 1, 0, 0, 0, 1, 0),
  (58, .if_icmp .ne 9, 3, 0, 4, 0, 0, 0),
  (61, .aload_n 0, 1, 0, 0, 0, 0, 0),
  (62, .iconst 3, 1, 0, 0, 0, 3, 0),
  (63, .invokevirtual 210, 3, 0, 9, 18, 0, 0),
  (66, .ireturn, 1, 0, 1, 0, 0, 0),
  (67, .aload_n 0, 1, 0, 0, 0, 0, 0),
  (68, .getfield 41, 3, 0, 11, 19, 0, 0),
  (71, .bipush 12, 2, 0, 0, 0, 12, 0),
  (73, .iload_n 1, 1, 0, 0, 0, 0, 0),
  (74, .iadd, 1, 0, 0, 0, 0, 0),
  (75, .dup2, 1, 0, 0, 0, 0, 0),
  (76, .iaload, 1, 0, 30, 0, 0, 0),
  (77, .iconst 1, 1, 0, 0, 0, 1, 0),
  (78, .aload_n 0, 1, 0, 0, 0, 0, 0),
  (79, .getfield 273, 3, 0, 11, 38, 0, 0),
  (82, .ishl, 1, 0, 0, 0, 0, 0),
  (83, .ior, 1, 0, 0, 0, 0, 0),
  (84, .iastore, 1, 0, 30, 0, 0, 0),
  (85, .aload_n 0, 1, 0, 0, 0, 0, 0),
  (86, .getfield 41, 3, 0, 11, 19, 0, 0),
  (89, .bipush 12, 2, 0, 0, 0, 12, 0),
  (91, .aload_n 0, 1, 0, 0, 0, 0, 0),
  (92, .getfield 273, 3, 0, 11, 38, 0, 0),
  (95, .iadd, 1, 0, 0, 0, 0, 0),
  (96, .dup2, 1, 0, 0, 0, 0, 0),
  (97, .iaload, 1, 0, 30, 0, 0, 0),
  (98, .iconst 1, 1, 0, 0, 0, 1, 0),
  (99, .iload_n 1, 1, 0, 0, 0, 0, 0),
  (100, .ishl, 1, 0, 0, 0, 0, 0),
  (101, .ior, 1, 0, 0, 0, 0, 0),
  (102, .iastore, 1, 0, 30, 0, 0, 0),
  (103, .aload_n 0, 1, 0, 0, 0, 0, 0),
  (104, .getfield 13, 3, 0, 11, 10, 0, 0),
  (107, .bipush 7, 2, 0, 0, 0, 7, 0),
  (109, .dup2, 1, 0, 0, 0, 0, 0),
  (110, .iaload, 1, 0, 30, 0, 0, 0),
  (111, .iconst 1, 1, 0, 0, 0, 1, 0),
  (112, .iadd, 1, 0, 0, 0, 0, 0),
  (113, .iastore, 1, 0, 30, 0, 0, 0),
  (114, .aload_n 0, 1, 0, 0, 0, 0, 0),
  (115, .invokevirtual 217, 3, 0, 6, 1, 0, 0),
  (118, .aload_n 0, 1, 0, 0, 0, 0, 0),
  (119, .invokevirtual 295, 3, 0, 22, 17, 0, 0),
  (122, .ireturn, 1, 0, 1, 0, 0, 0)]
def lM28 (q : Nat) : Nat := 0
def kM29 : List aE := [(0, .aload_n 0, 1, 0, 0, 0, 0, 0),
  (1, .getfield 305, 3, 0, 11, 25, 0, 0),
  (4, .ifCond .eq 9, 3, 0, 4, 0, 0, 0),
  (7, .aload_n 0, 1, 0, 0, 0, 0, 0),
  (8, .iconst 3, 1, 0, 0, 0, 3, 0),
  (9, .invokevirtual 210, 3, 0, 9, 18, 0, 0),
  (12, .ireturn, 1, 0, 1, 0, 0, 0),
  (13, .aload_n 0, 1, 0, 0, 0, 0, 0),
  (14, .iconst 1, 1, 0, 0, 0, 1, 0),
  (15, .putfield 305, 3, 0, 11, 25, 0, 0),
  (18, .aload_n 0, 1, 0, 0, 0, 0, 0),
  (19, .invokevirtual 217, 3, 0, 6, 1, 0, 0),
  (22, .aload_n 0, 1, 0, 0, 0, 0, 0),
  (23, .iconst 2, 1, 0, 0, 0, 2, 0),
  (24, .iconst 4, 1, 0, 0, 0, 4, 0),
  (25, .invokevirtual 276, 3, 0, 20, 19, 0, 0),
  (28, .ifCond .ne 5, 3, 0, 2, 0, 0, 0),
  (31, .iconst 0, 1, 0, 0, 0, 0, 0),
  (32, .ireturn, 1, 0, 1, 0, 0, 0),
  (33, .aload_n 0, 1, 0, 0, 0, 0, 0),
  (34, .getfield 13, 3, 0, 11, 10, 0, 0),
  (37, .bipush 6, 2, 0, 0, 0, 6, 0),
  (39, .aload_n 0, 1, 0, 0, 0, 0, 0),
  (40, .getfield 273, 3, 0, 11, 38, 0, 0),
  (43, .iastore, 1, 0, 30, 0, 0, 0),
  (44, .aload_n 0, 1, 0, 0, 0, 0, 0),
  (45, .invokevirtual 295, 3, 0, 22, 17, 0, 0),
  (48, .ireturn, 1, 0, 1, 0, 0, 0)]
def lM29 (q : Nat) : Nat := 0
def kM30 : List aE := [(0, .aload_n 0, 1, 0, 0, 0, 0, 0),
  (1, .getfield 47, 3, 0, 11, 21, 0, 0),
  (4, .iconst 2, 1, 0, 0, 0, 2, 0),
  (5, .iload_n 1, 1, 0, 0, 0, 0, 0),
  (6, .iadd, 1, 0, 0, 0, 0, 0),
  (7, .iaload, 1, 0, 30, 0, 0, 0),
  (8, .aload_n 0, 1, 0, 0, 0, 0, 0),
  (9, .getfield 44, 3, 0, 11, 20, 0, 0),
  (12, .iconst 2, 1, 0, 0, 0, 2, 0),
  (13, .iload_n 1, 1, 0, 0, 0, 0, 0),
  (14, .iadd, 1, 0, 0, 0, 0, 0),
  (15, .iaload, 1, 0, 30, 0, 0, 0),
  (16, .if_icmp .le 9, 3, 0, 4, 0, 0, 0),
  (19, .aload_n 0, 1, 0, 0, 0, 0, 0),
  (20, .iconst 3, 1, 0, 0, 0, 3, 0),
  (21, .invokevirtual 210, 3, 0, 9, 18, 0, 0),
  (24, .ireturn, 1, 0, 1, 0, 0, 0),
  (25, .aload_n 0, 1, 0, 0, 0, 0, 0),
  (26, .iload_n 1, 1, 0, 0, 0, 0, 0),
  (27, .putfield 177, 3, 0, 11, 24, 0, 0),
  (30, .aload_n 0, 1, 0, 0, 0, 0, 0),
  (31, .invokevirtual 217, 3, 0, 6, 1, 0, 0),
  (34, .aload_n 0, 1, 0, 0, 0, 0, 0),
  (35, .getfield 44, 3, 0, 11, 20, 0, 0),
  (38, .iconst 2, 1, 0, 0, 0, 2, 0),
  (39, .iload_n 1, 1, 0, 0, 0, 0, 0),
  (40, .iadd, 1, 0, 0, 0, 0, 0),
  (41, .aload_n 0, 1, 0, 0, 0, 0, 0),
  (42, .getfield 174, 3, 0, 11, 23, 0, 0),
  (45, .iastore, 1, 0, 30, 0, 0, 0),
  (46, .aload_n 0, 1, 0, 0, 0, 0, 0),
  (47, .invokevirtual 309, 3, 0, 12, 17, 0, 0),
  (50, .ifCond .ne 5, 3, 0, 2, 0, 0, 0),
  (53, .iconst 0, 1, 0, 0, 0, 0, 0),
  (54, .ireturn, 1, 0, 1, 0, 0, 0),
  (55, .aload_n 0, 1, 0, 0, 0, 0, 0),
  (56, .getfield 47, 3, 0, 11, 21, 0, 0),
  (59, .iconst 2, 1, 0, 0, 0, 2, 0),
  (60, .iload_n 1, 1, 0, 0, 0, 0, 0),
  (61, .iadd, 1, 0, 0, 0, 0, 0),
  (62, .aload_n 0, 1, 0, 0, 0, 0, 0),
  (63, .getfield 174, 3, 0, 11, 23, 0, 0),
  (66, .iastore, 1, 0, 30, 0, 0, 0),
  (67, .iconst 1, 1, 0, 0, 0, 1, 0),
  (68, .ireturn, 1, 0, 1, 0, 0, 0)]
def lM30 (q : Nat) : Nat := 0
def kM31 : List aE := [(0, .aload_n 0, 1, 0, 0, 0, 0, 0),
  (1, .aload_n 0, 1, 0, 0, 0, 0, 0),
  (2, .getfield 141, 3, 0, 11, 1, 0, 0),
  (5, .putfield 144, 3, 0, 11, 3, 0, 0),
  (8, .aload_n 0, 1, 0, 0, 0, 0, 0),
  (9, .iconst 0, 1, 0, 0, 0, 0, 0),
  (10, .putfield 141, 3, 0, 11, 1, 0, 0),
  (13, .aload_n 0, 1, 0, 0, 0, 0, 0),
  (14, .iconst 0, 1, 0, 0, 0, 0, 0),
  (15, .putfield 147, 3, 0, 11, 4, 0, 0),
  (18, .aload_n 0, 1, 0, 0, 0, 0, 0),
  (19, .invokevirtual 217, 3, 0, 6, 1, 0, 0),
  (22, .return_, 1, 0, 0, 0, 0, 0)]
def lM31 (q : Nat) : Nat := 0
def kM32 : List aE := [(0, .iconst 4, 1, 0, 0, 0, 4, 0),
  (1, .istore_n 1, 1, 0, 0, 0, 0, 0),
  (2, .iload_n 1, 1, 3, 0, 0, 0, 0),
  (3, .bipush 8, 2, 0, 0, 0, 8, 0),
  (5, .if_icmp .ge 26, 3, 0, 12, 0, 0, 0),
  (8, .aload_n 0, 1, 0, 0, 0, 0, 0),
  (9, .getfield 13, 3, 0, 11, 10, 0, 0),
  (12, .iload_n 1, 1, 0, 0, 0, 0, 0),
  (13, .iload_n 1, 1, 0, 0, 0, 0, 0),
  (14, .bipush 6, 2, 0, 0, 0, 6, 0),
  (16, .if_icmp .ne 7, 3, 0, 2, 0, 0, 0),
  (19, .iconst 3, 1, 0, 0, 0, 3, 0),
  (20, .goto 4, 3, 0, 1, 0, 0, 0),
  (23, .iconst 0, 1, 0, 0, 0, 0, 0),
  (24, .iastore, 1, 0, 30, 0, 0, 0),
  (25, .iinc 1 1, 3, 0, 0, 0, 1, 0),
  (28, .goto (-26), 3, 0, 2, 1, 0, 0),
  (31, .iconst 2, 1, 0, 0, 0, 2, 0),
  (32, .istore_n 1, 1, 0, 0, 0, 0, 0),
  (33, .iload_n 1, 1, 20, 0, 0, 0, 0),
  (34, .iconst 4, 1, 0, 0, 0, 4, 0),
  (35, .if_icmp .ge 27, 3, 0, 12, 0, 0, 0),
  (38, .aload_n 0, 1, 0, 0, 0, 0, 0),
  (39, .getfield 44, 3, 0, 11, 20, 0, 0),
  (42, .iload_n 1, 1, 0, 0, 0, 0, 0),
  (43, .sipush 1000, 3, 0, 0, 0, 1000, 0),
  (46, .iastore, 1, 0, 30, 0, 0, 0),
  (47, .aload_n 0, 1, 0, 0, 0, 0, 0),
  (48, .getfield 47, 3, 0, 11, 21, 0, 0),
  (51, .iload_n 1, 1, 0, 0, 0, 0, 0),
  (52, .sipush 1000, 3, 0, 0, 0, 1000, 0),
  (55, .iastore, 1, 0, 30, 0, 0, 0),
  (56, .iinc 1 1, 3, 0, 0, 0, 1, 0),
  (59, .goto (-26), 3, 0, 19, 1, 0, 0),
  (62, .aload_n 0, 1, 0, 0, 0, 0, 0),
  (63, .iconst 0, 1, 0, 0, 0, 0, 0),
  (64, .putfield 305, 3, 0, 11, 25, 0, 0),
  (67, .aload_n 0, 1, 0, 0, 0, 0, 0),
  (68, .sipush 1000, 3, 0, 0, 0, 1000, 0),
  (71, .putfield 174, 3, 0, 11, 23, 0, 0),
  (74, .aload_n 0, 1, 0, 0, 0, 0, 0),
  (75, .invokevirtual 312, 3, 0, 31, 1, 0, 0),
  (78, .aload_n 0, 1, 43, 0, 0, 0, 0),
  (79, .getfield 160, 3, 0, 11, 6, 0, 0),
  (82, .ifCond .eq 139, 3, 0, 60, 0, 0, 0),
  (85, .aload_n 0, 1, 0, 0, 0, 0, 0),
  (86, .ldc2_w 233, 3, 0, 0, 0, 0, 339782679),
  (89, .invokevirtual 202, 3, 0, 7, 18, 0, 0),
  (92, .ifCond .eq 10, 3, 0, 3, 0, 0, 0),
  (95, .aload_n 0, 1, 0, 0, 0, 0, 0),
  (96, .invokevirtual 315, 3, 0, 25, 17, 0, 0),
  (99, .goto 112, 3, 0, 47, 0, 0, 0),
  (102, .aload_n 0, 1, 0, 0, 0, 0, 0),
  (103, .ldc2_w 235, 3, 0, 0, 0, 0, 464134),
  (106, .invokevirtual 202, 3, 0, 7, 18, 0, 0),
  (109, .ifCond .eq 10, 3, 0, 3, 0, 0, 0),
  (112, .aload_n 0, 1, 0, 0, 0, 0, 0),
  (113, .invokevirtual 318, 3, 0, 26, 17, 0, 0),
  (116, .goto 95, 3, 0, 40, 0, 0, 0),
  (119, .aload_n 0, 1, 0, 0, 0, 0, 0),
  (120, .ldc2_w 245, 3, 0, 0, 0, 0, 6562612),
  (123, .invokevirtual 202, 3, 0, 7, 18, 0, 0),
  (126, .ifCond .eq 10, 3, 0, 3, 0, 0, 0),
  (129, .aload_n 0, 1, 0, 0, 0, 0, 0),
  (130, .invokevirtual 321, 3, 0, 27, 17, 0, 0),
  (133, .goto 78, 3, 0, 33, 0, 0, 0),
  (136, .aload_n 0, 1, 0, 0, 0, 0, 0),
  (137, .ldc2_w 247, 3, 0, 0, 0, 0, 1831769),
  (140, .invokevirtual 202, 3, 0, 7, 18, 0, 0),
  (143, .ifCond .eq 10, 3, 0, 3, 0, 0, 0),
  (146, .aload_n 0, 1, 0, 0, 0, 0, 0),
  (147, .invokevirtual 324, 3, 0, 28, 17, 0, 0),
  (150, .goto 61, 3, 0, 26, 0, 0, 0),
  (153, .aload_n 0, 1, 0, 0, 0, 0, 0),
  (154, .ldc2_w 249, 3, 0, 0, 0, 0, 3492766),
  (157, .invokevirtual 202, 3, 0, 7, 18, 0, 0),
  (160, .ifCond .eq 10, 3, 0, 3, 0, 0, 0),
  (163, .aload_n 0, 1, 0, 0, 0, 0, 0),
  (164, .invokevirtual 327, 3, 0, 29, 17, 0, 0),
  (167, .goto 44, 3, 0, 19, 0, 0, 0),
  (170, .aload_n 0, 1, 0, 0, 0, 0, 0),
  (171, .ldc2_w 251, 3, 0, 0, 0, 0, 339782680),
  (174, .invokevirtual 202, 3, 0, 7, 18, 0, 0),
  (177, .ifCond .eq 11, 3, 0, 4, 0, 0, 0),
  (180, .aload_n 0, 1, 0, 0, 0, 0, 0),
  (181, .iconst 0, 1, 0, 0, 0, 0, 0),
  (182, .invokevirtual 330, 3, 0, 30, 18, 0, 0),
  (185, .goto 26, 3, 0, 11, 0, 0, 0),
  (188, .aload_n 0, 1, 0, 0, 0, 0, 0),
  (189, .ldc2_w 253, 3, 0, 0, 0, 0, 89821),
  (192, .invokevirtual 202, 3, 0, 7, 18, 0, 0),
  (195, .ifCond .eq 11, 3, 0, 4, 0, 0, 0),
  (198, .aload_n 0, 1, 0, 0, 0, 0, 0),
  (199, .iconst 1, 1, 0, 0, 0, 1, 0),
  (200, .invokevirtual 330, 3, 0, 30, 18, 0, 0),
  (203, .goto 8, 3, 0, 3, 0, 0, 0),
  (206, .aload_n 0, 1, 0, 0, 0, 0, 0),
  (207, .iconst 1, 1, 0, 0, 0, 1, 0),
  (208, .invokevirtual 210, 3, 0, 9, 18, 0, 0),
  (211, .istore_n 1, 1, 0, 0, 0, 0, 0),
  (212, .iload_n 1, 1, 0, 0, 0, 0, 0),
  (213, .ifCond .ne 5, 3, 0, 2, 0, 0, 0),
  (216, .iconst 0, 1, 0, 0, 0, 0, 0),
  (217, .ireturn, 1, 0, 1, 0, 0, 0),
  (218, .goto (-140), 3, 0, 42, 1, 0, 0),
  (221, .iconst 1, 1, 0, 0, 0, 1, 0),
  (222, .ireturn, 1, 0, 1, 0, 0, 0)]
def lM32 (q : Nat) : Nat := cond (Nat.ble q 2) (3) (cond (Nat.ble q 19) (3) (1))
def kM33 : List aE := [(0, .iconst 0, 1, 0, 0, 0, 0, 0),
  (1, .istore_n 2, 1, 0, 0, 0, 0, 0),
  (2, .iload_n 2, 1, 3, 0, 0, 0, 0),
  (3, .iload_n 1, 1, 0, 0, 0, 0, 0),
  (4, .if_icmp .ge 17, 3, 0, 10, 0, 0, 0),
  (7, .aload_n 0, 1, 0, 0, 0, 0, 0),
  (8, .iload_n 2, 1, 0, 0, 0, 0, 0),
  (9, .aload_n 0, 1, 0, 0, 0, 0, 0),
  (10, .iload_n 1, 1, 0, 0, 0, 0, 0),
  (11, .iload_n 2, 1, 0, 0, 0, 0, 0),
  (12, .iadd, 1, 0, 0, 0, 0, 0),
  (13, .iaload, 1, 0, 30, 0, 0, 0),
  (14, .iastore, 1, 0, 30, 0, 0, 0),
  (15, .iinc 2 1, 3, 0, 0, 0, 1, 0),
  (18, .goto (-16), 3, 0, 2, 1, 0, 0),
  (21, .return_, 1, 0, 0, 0, 0, 0)]
def lM33 (q : Nat) : Nat := 7
def kM34 : List aE := [(0, .aload_n 0, 1, 0, 0, 0, 0, 0),
  (1, .getfield 13, 3, 0, 11, 10, 0, 0),
  (4, .iconst 4, 1, 0, 0, 0, 4, 0),
  (5, .invokestatic 333, 3, 0, 33, 2, 0, 0),
  (8, .iconst 0, 1, 0, 0, 0, 0, 0),
  (9, .istore_n 1, 1, 0, 0, 0, 0, 0),
  (10, .iload_n 1, 1, 7, 0, 0, 0, 0),
  (11, .bipush 12, 2, 0, 0, 0, 12, 0),
  (13, .if_icmp .ge 24, 3, 0, 12, 0, 0, 0),
  (16, .aload_n 0, 1, 0, 0, 0, 0, 0),
  (17, .getfield 20, 3, 0, 11, 12, 0, 0),
  (20, .iload_n 1, 1, 0, 0, 0, 0, 0),
  (21, .aload_n 0, 1, 0, 0, 0, 0, 0),
  (22, .getfield 20, 3, 0, 11, 12, 0, 0),
  (25, .bipush 12, 2, 0, 0, 0, 12, 0),
  (27, .iload_n 1, 1, 0, 0, 0, 0, 0),
  (28, .iadd, 1, 0, 0, 0, 0, 0),
  (29, .laload, 1, 0, 31, 0, 0, 0),
  (30, .lastore, 1, 0, 31, 0, 0, 0),
  (31, .iinc 1 1, 3, 0, 0, 0, 1, 0),
  (34, .goto (-24), 3, 0, 6, 1, 0, 0),
  (37, .aload_n 0, 1, 0, 0, 0, 0, 0),
  (38, .getfield 23, 3, 0, 11, 13, 0, 0),
  (41, .iconst 5, 1, 0, 0, 0, 5, 0),
  (42, .invokestatic 333, 3, 0, 33, 2, 0, 0),
  (45, .aload_n 0, 1, 0, 0, 0, 0, 0),
  (46, .getfield 26, 3, 0, 11, 14, 0, 0),
  (49, .bipush 12, 2, 0, 0, 0, 12, 0),
  (51, .invokestatic 333, 3, 0, 33, 2, 0, 0),
  (54, .aload_n 0, 1, 0, 0, 0, 0, 0),
  (55, .getfield 29, 3, 0, 11, 15, 0, 0),
  (58, .bipush 12, 2, 0, 0, 0, 12, 0),
  (60, .invokestatic 333, 3, 0, 33, 2, 0, 0),
  (63, .aload_n 0, 1, 0, 0, 0, 0, 0),
  (64, .getfield 32, 3, 0, 11, 16, 0, 0),
  (67, .bipush 12, 2, 0, 0, 0, 12, 0),
  (69, .invokestatic 333, 3, 0, 33, 2, 0, 0),
  (72, .aload_n 0, 1, 0, 0, 0, 0, 0),
  (73, .getfield 35, 3, 0, 11, 17, 0, 0),
  (76, .bipush 12, 2, 0, 0, 0, 12, 0),
  (78, .invokestatic 333, 3, 0, 33, 2, 0, 0),
  (81, .aload_n 0, 1, 0, 0, 0, 0, 0),
  (82, .getfield 38, 3, 0, 11, 18, 0, 0),
  (85, .bipush 60, 2, 0, 0, 0, 60, 0),
  (87, .invokestatic 333, 3, 0, 33, 2, 0, 0),
  (90, .aload_n 0, 1, 0, 0, 0, 0, 0),
  (91, .getfield 41, 3, 0, 11, 19, 0, 0),
  (94, .bipush 12, 2, 0, 0, 0, 12, 0),
  (96, .invokestatic 333, 3, 0, 33, 2, 0, 0),
  (99, .aload_n 0, 1, 0, 0, 0, 0, 0),
  (100, .getfield 50, 3, 0, 11, 22, 0, 0),
  (103, .sipush 1000, 3, 0, 0, 0, 1000, 0),
  (106, .invokestatic 333, 3, 0, 33, 2, 0, 0),
  (109, .iconst 0, 1, 0, 0, 0, 0, 0),
  (110, .istore_n 1, 1, 0, 0, 0, 0, 0),
  (111, .iload_n 1, 1, 56, 0, 0, 0, 0),
  (112, .iconst 2, 1, 0, 0, 0, 2, 0),
  (113, .if_icmp .ge 45, 3, 0, 26, 0, 0, 0),
  (116, .aload_n 0, 1, 0, 0, 0, 0, 0),
  (117, .getfield 44, 3, 0, 11, 20, 0, 0),
  (120, .iload_n 1, 1, 0, 0, 0, 0, 0),
  (121, .aload_n 0, 1, 0, 0, 0, 0, 0),
  (122, .getfield 44, 3, 0, 11, 20, 0, 0),
  (125, .iconst 2, 1, 0, 0, 0, 2, 0),
  (126, .iload_n 1, 1, 0, 0, 0, 0, 0),
  (127, .iadd, 1, 0, 0, 0, 0, 0),
  (128, .iaload, 1, 0, 30, 0, 0, 0),
  (129, .sipush 1000, 3, 0, 0, 0, 1000, 0),
  (132, .isub, 1, 0, 0, 0, 0, 0),
  (133, .iastore, 1, 0, 30, 0, 0, 0),
  (134, .aload_n 0, 1, 0, 0, 0, 0, 0),
  (135, .getfield 47, 3, 0, 11, 21, 0, 0),
  (138, .iload_n 1, 1, 0, 0, 0, 0, 0),
  (139, .aload_n 0, 1, 0, 0, 0, 0, 0),
  (140, .getfield 47, 3, 0, 11, 21, 0, 0),
  (143, .iconst 2, 1, 0, 0, 0, 2, 0),
  (144, .iload_n 1, 1, 0, 0, 0, 0, 0),
  (145, .iadd, 1, 0, 0, 0, 0, 0),
  (146, .iaload, 1, 0, 30, 0, 0, 0),
  (147, .sipush 1000, 3, 0, 0, 0, 1000, 0),
  (150, .isub, 1, 0, 0, 0, 0, 0),
  (151, .iastore, 1, 0, 30, 0, 0, 0),
  (152, .iinc 1 1, 3, 0, 0, 0, 1, 0),
  (155, .goto (-44), 3, 0, 55, 1, 0, 0),
  (158, .return_, 1, 0, 0, 0, 0, 0)]
def lM34 (q : Nat) : Nat := cond (Nat.ble q 6) (3) (3)
def kM35 : List aE := [(0, .iconst 0, 1, 0, 0, 0, 0, 0),
  (1, .istore 4, 2, 0, 0, 0, 0, 0),
  (3, .iload 4, 2, 3, 0, 0, 0, 0),
  (5, .bipush 60, 2, 0, 0, 0, 60, 0),
  (7, .if_icmp .ge 21, 3, 0, 12, 0, 0, 0),
  (10, .aload_n 2, 1, 0, 0, 0, 0, 0),
  (11, .iload_n 3, 1, 0, 0, 0, 0, 0),
  (12, .iload 4, 2, 0, 0, 0, 0, 0),
  (14, .iadd, 1, 0, 0, 0, 0, 0),
  (15, .aload_n 0, 1, 0, 0, 0, 0, 0),
  (16, .iload_n 1, 1, 0, 0, 0, 0, 0),
  (17, .iload 4, 2, 0, 0, 0, 0, 0),
  (19, .iadd, 1, 0, 0, 0, 0, 0),
  (20, .iaload, 1, 0, 30, 0, 0, 0),
  (21, .iastore, 1, 0, 30, 0, 0, 0),
  (22, .iinc 4 1, 3, 0, 0, 0, 1, 0),
  (25, .goto (-22), 3, 0, 2, 1, 0, 0),
  (28, .return_, 1, 0, 0, 0, 0, 0)]
def lM35 (q : Nat) : Nat := 31
def kM36 : List aE := [(0, .aload_n 0, 1, 0, 0, 0, 0, 0),
  (1, .ldc2_w 255, 3, 0, 0, 0, 0, 12584543),
  (4, .invokevirtual 202, 3, 0, 7, 18, 0, 0),
  (7, .ifCond .eq 7, 3, 0, 2, 0, 0, 0),
  (10, .iconst 0, 1, 0, 0, 0, 0, 0),
  (11, .goto 32, 3, 0, 19, 1, 0, 0),
  (14, .aload_n 0, 1, 0, 0, 0, 0, 0),
  (15, .ldc2_w 257, 3, 0, 0, 0, 0, 55175),
  (18, .invokevirtual 202, 3, 0, 7, 18, 0, 0),
  (21, .ifCond .eq 7, 3, 0, 2, 0, 0, 0),
  (24, .iconst 1, 1, 0, 0, 0, 1, 0),
  (25, .goto 18, 3, 0, 19, 1, 0, 0),
  (28, .aload_n 0, 1, 0, 0, 0, 0, 0),
  (29, .ldc2_w 259, 3, 0, 0, 0, 0, 316189),
  (32, .invokevirtual 202, 3, 0, 7, 18, 0, 0),
  (35, .ifCond .eq 7, 3, 0, 2, 0, 0, 0),
  (38, .iconst 2, 1, 0, 0, 0, 2, 0),
  (39, .goto 4, 3, 0, 19, 1, 0, 0),
  (42, .iconst (-1), 1, 0, 0, 0, -1, 0),
  (43, .istore_n 1, 1, 20, 0, 0, 0, 0),
  (44, .iload_n 1, 1, 0, 0, 0, 0, 0),
  (45, .ifCond .ge 9, 3, 0, 4, 0, 0, 0),
  (48, .aload_n 0, 1, 0, 0, 0, 0, 0),
  (49, .iconst 1, 1, 0, 0, 0, 1, 0),
  (50, .invokevirtual 210, 3, 0, 9, 18, 0, 0),
  (53, .ireturn, 1, 0, 1, 0, 0, 0),
  (54, .aload_n 0, 1, 0, 0, 0, 0, 0),
  (55, .getfield 90, 3, 0, 11, 40, 0, 0),
  (58, .iconst 5, 1, 0, 0, 0, 5, 0),
  (59, .iaload, 1, 0, 30, 0, 0, 0),
  (60, .bipush 40, 2, 0, 0, 0, 40, 0),
  (62, .if_icmp .ne 9, 3, 0, 4, 0, 0, 0),
  (65, .aload_n 0, 1, 0, 0, 0, 0, 0),
  (66, .iconst 5, 1, 0, 0, 0, 5, 0),
  (67, .invokevirtual 210, 3, 0, 9, 18, 0, 0),
  (70, .ireturn, 1, 0, 1, 0, 0, 0),
  (71, .aload_n 0, 1, 0, 0, 0, 0, 0),
  (72, .invokevirtual 217, 3, 0, 6, 1, 0, 0),
  (75, .sipush 200, 3, 0, 0, 0, 200, 0),
  (78, .aload_n 0, 1, 0, 0, 0, 0, 0),
  (79, .getfield 90, 3, 0, 11, 40, 0, 0),
  (82, .iconst 5, 1, 0, 0, 0, 5, 0),
  (83, .iaload, 1, 0, 30, 0, 0, 0),
  (84, .iadd, 1, 0, 0, 0, 0, 0),
  (85, .istore_n 2, 1, 0, 0, 0, 0, 0),
  (86, .aload_n 0, 1, 0, 0, 0, 0, 0),
  (87, .getfield 93, 3, 0, 11, 41, 0, 0),
  (90, .iload_n 2, 1, 0, 0, 0, 0, 0),
  (91, .iload_n 1, 1, 0, 0, 0, 0, 0),
  (92, .iastore, 1, 0, 30, 0, 0, 0),
  (93, .iload_n 1, 1, 0, 0, 0, 0, 0),
  (94, .ifCond .ne 20, 3, 0, 9, 0, 0, 0),
  (97, .aload_n 0, 1, 0, 0, 0, 0, 0),
  (98, .iconst 0, 1, 0, 0, 0, 0, 0),
  (99, .invokevirtual 302, 3, 0, 24, 18, 0, 0),
  (102, .ifCond .ne 5, 3, 0, 2, 0, 0, 0),
  (105, .iconst 0, 1, 0, 0, 0, 0, 0),
  (106, .ireturn, 1, 0, 1, 0, 0, 0),
  (107, .aload_n 0, 1, 0, 0, 0, 0, 0),
  (108, .invokevirtual 217, 3, 0, 6, 1, 0, 0),
  (111, .goto 20, 3, 0, 71, 1, 0, 0),
  (114, .iload_n 1, 1, 0, 0, 0, 0, 0),
  (115, .iconst 1, 1, 0, 0, 0, 1, 0),
  (116, .if_icmp .ne 15, 3, 0, 71, 1, 0, 0),
  (119, .aload_n 0, 1, 0, 0, 0, 0, 0),
  (120, .iconst 0, 1, 0, 0, 0, 0, 0),
  (121, .bipush 9, 2, 0, 0, 0, 9, 0),
  (123, .invokevirtual 276, 3, 0, 20, 19, 0, 0),
  (126, .ifCond .ne 5, 3, 0, 71, 1, 0, 0),
  (129, .iconst 0, 1, 0, 0, 0, 0, 0),
  (130, .ireturn, 1, 0, 1, 0, 0, 0),
  (131, .aload_n 0, 1, 72, 0, 0, 0, 0),
  (132, .getfield 96, 3, 0, 11, 42, 0, 0),
  (135, .iload_n 2, 1, 0, 0, 0, 0, 0),
  (136, .aload_n 0, 1, 0, 0, 0, 0, 0),
  (137, .getfield 273, 3, 0, 11, 38, 0, 0),
  (140, .iastore, 1, 0, 30, 0, 0, 0),
  (141, .aload_n 0, 1, 0, 0, 0, 0, 0),
  (142, .getfield 90, 3, 0, 11, 40, 0, 0),
  (145, .iconst 5, 1, 0, 0, 0, 5, 0),
  (146, .dup2, 1, 0, 0, 0, 0, 0),
  (147, .iaload, 1, 0, 30, 0, 0, 0),
  (148, .iconst 1, 1, 0, 0, 0, 1, 0),
  (149, .iadd, 1, 0, 0, 0, 0, 0),
  (150, .iastore, 1, 0, 30, 0, 0, 0),
  (151, .aload_n 0, 1, 0, 0, 0, 0, 0),
  (152, .invokevirtual 295, 3, 0, 22, 17, 0, 0),
  (155, .ireturn, 1, 0, 1, 0, 0, 0)]
def lM36 (q : Nat) : Nat := cond (Nat.ble q 19) (1) (5)
def kM37 : List aE := [(0, .aload_n 0, 1, 0, 0, 0, 0, 0),
  (1, .getfield 90, 3, 0, 11, 40, 0, 0),
  (4, .iload_n 2, 1, 0, 0, 0, 0, 0),
  (5, .aload_n 0, 1, 0, 0, 0, 0, 0),
  (6, .getfield 90, 3, 0, 11, 40, 0, 0),
  (9, .iload_n 1, 1, 0, 0, 0, 0, 0),
  (10, .iaload, 1, 0, 30, 0, 0, 0),
  (11, .iastore, 1, 0, 30, 0, 0, 0),
  (12, .iconst 0, 1, 0, 0, 0, 0, 0),
  (13, .istore_n 3, 1, 0, 0, 0, 0, 0),
  (14, .iload_n 3, 1, 11, 0, 0, 0, 0),
  (15, .bipush 40, 2, 0, 0, 0, 40, 0),
  (17, .if_icmp .ge 53, 3, 0, 34, 0, 0, 0),
  (20, .aload_n 0, 1, 0, 0, 0, 0, 0),
  (21, .getfield 93, 3, 0, 11, 41, 0, 0),
  (24, .bipush 40, 2, 0, 0, 0, 40, 0),
  (26, .iload_n 2, 1, 0, 0, 0, 0, 0),
  (27, .imul, 1, 0, 0, 0, 0, 0),
  (28, .iload_n 3, 1, 0, 0, 0, 0, 0),
  (29, .iadd, 1, 0, 0, 0, 0, 0),
  (30, .aload_n 0, 1, 0, 0, 0, 0, 0),
  (31, .getfield 93, 3, 0, 11, 41, 0, 0),
  (34, .bipush 40, 2, 0, 0, 0, 40, 0),
  (36, .iload_n 1, 1, 0, 0, 0, 0, 0),
  (37, .imul, 1, 0, 0, 0, 0, 0),
  (38, .iload_n 3, 1, 0, 0, 0, 0, 0),
  (39, .iadd, 1, 0, 0, 0, 0, 0),
  (40, .iaload, 1, 0, 30, 0, 0, 0),
  (41, .iastore, 1, 0, 30, 0, 0, 0),
  (42, .aload_n 0, 1, 0, 0, 0, 0, 0),
  (43, .getfield 96, 3, 0, 11, 42, 0, 0),
  (46, .bipush 40, 2, 0, 0, 0, 40, 0),
  (48, .iload_n 2, 1, 0, 0, 0, 0, 0),
  (49, .imul, 1, 0, 0, 0, 0, 0),
  (50, .iload_n 3, 1, 0, 0, 0, 0, 0),
  (51, .iadd, 1, 0, 0, 0, 0, 0),
  (52, .aload_n 0, 1, 0, 0, 0, 0, 0),
  (53, .getfield 96, 3, 0, 11, 42, 0, 0),
  (56, .bipush 40, 2, 0, 0, 0, 40, 0),
  (58, .iload_n 1, 1, 0, 0, 0, 0, 0),
  (59, .imul, 1, 0, 0, 0, 0, 0),
  (60, .iload_n 3, 1, 0, 0, 0, 0, 0),
  (61, .iadd, 1, 0, 0, 0, 0, 0),
  (62, .iaload, 1, 0, 30, 0, 0, 0),
  (63, .iastore, 1, 0, 30, 0, 0, 0),
  (64, .iinc 3 1, 3, 0, 0, 0, 1, 0),
  (67, .goto (-53), 3, 0, 10, 1, 0, 0),
  (70, .return_, 1, 0, 0, 0, 0, 0)]
def lM37 (q : Nat) : Nat := 15
def kM38 : List aE := [(0, .aload_n 0, 1, 0, 0, 0, 0, 0),
  (1, .getfield 99, 3, 0, 11, 43, 0, 0),
  (4, .iload_n 2, 1, 0, 0, 0, 0, 0),
  (5, .aload_n 0, 1, 0, 0, 0, 0, 0),
  (6, .getfield 99, 3, 0, 11, 43, 0, 0),
  (9, .iload_n 1, 1, 0, 0, 0, 0, 0),
  (10, .iaload, 1, 0, 30, 0, 0, 0),
  (11, .iastore, 1, 0, 30, 0, 0, 0),
  (12, .iconst 0, 1, 0, 0, 0, 0, 0),
  (13, .istore_n 3, 1, 0, 0, 0, 0, 0),
  (14, .iload_n 3, 1, 11, 0, 0, 0, 0),
  (15, .bipush 8, 2, 0, 0, 0, 8, 0),
  (17, .if_icmp .ge 31, 3, 0, 18, 0, 0, 0),
  (20, .aload_n 0, 1, 0, 0, 0, 0, 0),
  (21, .getfield 102, 3, 0, 11, 44, 0, 0),
  (24, .bipush 8, 2, 0, 0, 0, 8, 0),
  (26, .iload_n 2, 1, 0, 0, 0, 0, 0),
  (27, .imul, 1, 0, 0, 0, 0, 0),
  (28, .iload_n 3, 1, 0, 0, 0, 0, 0),
  (29, .iadd, 1, 0, 0, 0, 0, 0),
  (30, .aload_n 0, 1, 0, 0, 0, 0, 0),
  (31, .getfield 102, 3, 0, 11, 44, 0, 0),
  (34, .bipush 8, 2, 0, 0, 0, 8, 0),
  (36, .iload_n 1, 1, 0, 0, 0, 0, 0),
  (37, .imul, 1, 0, 0, 0, 0, 0),
  (38, .iload_n 3, 1, 0, 0, 0, 0, 0),
  (39, .iadd, 1, 0, 0, 0, 0, 0),
  (40, .iaload, 1, 0, 30, 0, 0, 0),
  (41, .iastore, 1, 0, 30, 0, 0, 0),
  (42, .iinc 3 1, 3, 0, 0, 0, 1, 0),
  (45, .goto (-31), 3, 0, 10, 1, 0, 0),
  (48, .return_, 1, 0, 0, 0, 0, 0)]
def lM38 (q : Nat) : Nat := 15
def kM39 : List aE := [(0, .iconst 0, 1, 0, 0, 0, 0, 0),
  (1, .istore_n 1, 1, 0, 0, 0, 0, 0),
  (2, .iload_n 1, 1, 3, 0, 0, 0, 0),
  (3, .bipush 60, 2, 0, 0, 0, 60, 0),
  (5, .if_icmp .ge 16, 3, 0, 7, 0, 0, 0),
  (8, .aload_n 0, 1, 0, 0, 0, 0, 0),
  (9, .getfield 105, 3, 0, 11, 45, 0, 0),
  (12, .iload_n 1, 1, 0, 0, 0, 0, 0),
  (13, .iconst 0, 1, 0, 0, 0, 0, 0),
  (14, .iastore, 1, 0, 30, 0, 0, 0),
  (15, .iinc 1 1, 3, 0, 0, 0, 1, 0),
  (18, .goto (-16), 3, 0, 2, 1, 0, 0),
  (21, .iconst 0, 1, 0, 0, 0, 0, 0),
  (22, .istore_n 1, 1, 0, 0, 0, 0, 0),
  (23, .iload_n 1, 1, 15, 0, 0, 0, 0),
  (24, .aload_n 0, 1, 0, 0, 0, 0, 0),
  (25, .getfield 13, 3, 0, 11, 10, 0, 0),
  (28, .iconst 1, 1, 0, 0, 0, 1, 0),
  (29, .iaload, 1, 0, 30, 0, 0, 0),
  (30, .if_icmp .ge 24, 3, 0, 12, 0, 0, 0),
  (33, .aload_n 0, 1, 0, 0, 0, 0, 0),
  (34, .getfield 105, 3, 0, 11, 45, 0, 0),
  (37, .bipush 8, 2, 0, 0, 0, 8, 0),
  (39, .iload_n 1, 1, 0, 0, 0, 0, 0),
  (40, .iadd, 1, 0, 0, 0, 0, 0),
  (41, .aload_n 0, 1, 0, 0, 0, 0, 0),
  (42, .getfield 35, 3, 0, 11, 17, 0, 0),
  (45, .iload_n 1, 1, 0, 0, 0, 0, 0),
  (46, .iaload, 1, 0, 30, 0, 0, 0),
  (47, .iastore, 1, 0, 30, 0, 0, 0),
  (48, .iinc 1 1, 3, 0, 0, 0, 1, 0),
  (51, .goto (-28), 3, 0, 14, 1, 0, 0),
  (54, .return_, 1, 0, 0, 0, 0, 0)]
def lM39 (q : Nat) : Nat := cond (Nat.ble q 2) (3) (3)
def kM40 : List aE := [(0, .aload_n 0, 1, 0, 0, 0, 0, 0),
  (1, .iconst 0, 1, 0, 0, 0, 0, 0),
  (2, .putfield 135, 3, 0, 11, 0, 0, 0),
  (5, .aload_n 0, 1, 0, 0, 0, 0, 0),
  (6, .invokevirtual 337, 3, 0, 32, 17, 0, 0),
  (9, .ifCond .ne 8, 3, 0, 3, 0, 0, 0),
  (12, .aload_n 0, 1, 0, 0, 0, 0, 0),
  (13, .getfield 171, 3, 0, 11, 9, 0, 0),
  (16, .ireturn, 1, 0, 0, 0, 0, 0),
  (17, .aload_n 0, 1, 0, 0, 0, 0, 0),
  (18, .invokevirtual 340, 3, 0, 34, 1, 0, 0),
  (21, .aload_n 0, 1, 0, 0, 0, 0, 0),
  (22, .invokevirtual 132, 3, 0, 39, 1, 0, 0),
  (25, .aload_n 0, 1, 0, 0, 0, 0, 0),
  (26, .getfield 90, 3, 0, 11, 40, 0, 0),
  (29, .iconst 0, 1, 0, 0, 0, 0, 0),
  (30, .iconst 0, 1, 0, 0, 0, 0, 0),
  (31, .iastore, 1, 0, 30, 0, 0, 0),
  (32, .aload_n 0, 1, 0, 0, 0, 0, 0),
  (33, .getfield 99, 3, 0, 11, 43, 0, 0),
  (36, .iconst 0, 1, 0, 0, 0, 0, 0),
  (37, .iconst 0, 1, 0, 0, 0, 0, 0),
  (38, .iastore, 1, 0, 30, 0, 0, 0),
  (39, .aload_n 0, 1, 0, 0, 0, 0, 0),
  (40, .iconst 0, 1, 0, 0, 0, 0, 0),
  (41, .putfield 343, 3, 0, 11, 50, 0, 0),
  (44, .iconst 0, 1, 0, 0, 0, 0, 0),
  (45, .istore_n 1, 1, 0, 0, 0, 0, 0),
  (46, .iload_n 1, 1, 29, 0, 0, 0, 0),
  (47, .iconst 4, 1, 0, 0, 0, 4, 0),
  (48, .if_icmp .ge 16, 3, 0, 7, 0, 0, 0),
  (51, .aload_n 0, 1, 0, 0, 0, 0, 0),
  (52, .getfield 117, 3, 0, 11, 49, 0, 0),
  (55, .iload_n 1, 1, 0, 0, 0, 0, 0),
  (56, .iconst 0, 1, 0, 0, 0, 0, 0),
  (57, .bastore, 1, 0, 33, 0, 0, 0),
  (58, .iinc 1 1, 3, 0, 0, 0, 1, 0),
  (61, .goto (-15), 3, 0, 28, 1, 0, 0),
  (64, .iconst 0, 1, 0, 0, 0, 0, 0),
  (65, .ireturn, 1, 0, 0, 0, 0, 0)]
def lM40 (q : Nat) : Nat := 3
def kM41 : List aE := [(0, .aload_n 0, 1, 0, 0, 0, 0, 0),
  (1, .iconst 0, 1, 0, 0, 0, 0, 0),
  (2, .putfield 135, 3, 0, 11, 0, 0, 0),
  (5, .aload_n 0, 1, 0, 0, 0, 0, 0),
  (6, .getfield 90, 3, 0, 11, 40, 0, 0),
  (9, .iconst 5, 1, 0, 0, 0, 5, 0),
  (10, .iconst 0, 1, 0, 0, 0, 0, 0),
  (11, .iastore, 1, 0, 30, 0, 0, 0),
  (12, .aload_n 0, 1, 0, 0, 0, 0, 0),
  (13, .iconst 0, 1, 0, 0, 0, 0, 0),
  (14, .putfield 273, 3, 0, 11, 38, 0, 0),
  (17, .aload_n 0, 1, 0, 0, 0, 0, 0),
  (18, .invokevirtual 312, 3, 0, 31, 1, 0, 0),
  (21, .aload_n 0, 1, 14, 0, 0, 0, 0),
  (22, .getfield 160, 3, 0, 11, 6, 0, 0),
  (25, .ifCond .eq 15, 3, 0, 6, 0, 0, 0),
  (28, .aload_n 0, 1, 0, 0, 0, 0, 0),
  (29, .invokevirtual 346, 3, 0, 36, 17, 0, 0),
  (32, .ifCond .ne (-11), 3, 0, 13, 1, 0, 0),
  (35, .aload_n 0, 1, 0, 0, 0, 0, 0),
  (36, .getfield 171, 3, 0, 11, 9, 0, 0),
  (39, .ireturn, 1, 0, 0, 0, 0, 0),
  (40, .aload_n 0, 1, 0, 0, 0, 0, 0),
  (41, .iconst 5, 1, 0, 0, 0, 5, 0),
  (42, .iconst 0, 1, 0, 0, 0, 0, 0),
  (43, .invokevirtual 349, 3, 0, 37, 3, 0, 0),
  (46, .iconst 0, 1, 0, 0, 0, 0, 0),
  (47, .ireturn, 1, 0, 0, 0, 0, 0)]
def lM41 (q : Nat) : Nat := 1
def kM42 : List aE := [(0, .iload_n 1, 1, 0, 0, 0, 0, 0),
  (1, .ifCond .lt 17, 3, 0, 8, 0, 0, 0),
  (4, .iload_n 1, 1, 0, 0, 0, 0, 0),
  (5, .aload_n 0, 1, 0, 0, 0, 0, 0),
  (6, .getfield 13, 3, 0, 11, 10, 0, 0),
  (9, .iconst 0, 1, 0, 0, 0, 0, 0),
  (10, .iaload, 1, 0, 30, 0, 0, 0),
  (11, .if_icmp .ge 7, 3, 0, 2, 0, 0, 0),
  (14, .iconst 1, 1, 0, 0, 0, 1, 0),
  (15, .goto 4, 3, 0, 1, 0, 0, 0),
  (18, .iconst 0, 1, 0, 0, 0, 0, 0),
  (19, .ireturn, 1, 0, 1, 0, 0, 0)]
def lM42 (q : Nat) : Nat := 0
def kM43 : List aE := [(0, .iload_n 1, 1, 0, 0, 0, 0, 0),
  (1, .ifCond .lt 17, 3, 0, 8, 0, 0, 0),
  (4, .iload_n 1, 1, 0, 0, 0, 0, 0),
  (5, .aload_n 0, 1, 0, 0, 0, 0, 0),
  (6, .getfield 13, 3, 0, 11, 10, 0, 0),
  (9, .iconst 1, 1, 0, 0, 0, 1, 0),
  (10, .iaload, 1, 0, 30, 0, 0, 0),
  (11, .if_icmp .ge 7, 3, 0, 2, 0, 0, 0),
  (14, .iconst 1, 1, 0, 0, 0, 1, 0),
  (15, .goto 4, 3, 0, 1, 0, 0, 0),
  (18, .iconst 0, 1, 0, 0, 0, 0, 0),
  (19, .ireturn, 1, 0, 1, 0, 0, 0)]
def lM43 (q : Nat) : Nat := 0
def kM44 : List aE := [(0, .aload_n 0, 1, 0, 0, 0, 0, 0),
  (1, .getfield 13, 3, 0, 11, 10, 0, 0),
  (4, .iconst 0, 1, 0, 0, 0, 0, 0),
  (5, .iaload, 1, 0, 30, 0, 0, 0),
  (6, .ifCond .ne 7, 3, 0, 2, 0, 0, 0),
  (9, .iconst (-1), 1, 0, 0, 0, -1, 0),
  (10, .goto 13, 3, 0, 8, 0, 0, 0),
  (13, .iload_n 1, 1, 0, 0, 0, 0, 0),
  (14, .iload_n 2, 1, 0, 0, 0, 0, 0),
  (15, .iadd, 1, 0, 0, 0, 0, 0),
  (16, .aload_n 0, 1, 0, 0, 0, 0, 0),
  (17, .getfield 13, 3, 0, 11, 10, 0, 0),
  (20, .iconst 0, 1, 0, 0, 0, 0, 0),
  (21, .iaload, 1, 0, 30, 0, 0, 0),
  (22, .irem, 1, 0, 0, 0, 0, 0),
  (23, .ireturn, 1, 0, 0, 0, 0, 0)]
def lM44 (q : Nat) : Nat := 0
def kM45 : List aE := [(0, .aload_n 0, 1, 0, 0, 0, 0, 0),
  (1, .getfield 105, 3, 0, 11, 45, 0, 0),
  (4, .bipush 8, 2, 0, 0, 0, 8, 0),
  (6, .iload_n 1, 1, 0, 0, 0, 0, 0),
  (7, .iadd, 1, 0, 0, 0, 0, 0),
  (8, .iaload, 1, 0, 30, 0, 0, 0),
  (9, .ifCond .ne 5, 3, 0, 2, 0, 0, 0),
  (12, .iconst 0, 1, 0, 0, 0, 0, 0),
  (13, .ireturn, 1, 0, 0, 0, 0, 0),
  (14, .iload_n 2, 1, 0, 0, 0, 0, 0),
  (15, .ifCond .ge 7, 3, 0, 2, 0, 0, 0),
  (18, .iconst 0, 1, 0, 0, 0, 0, 0),
  (19, .goto 14, 3, 0, 8, 0, 0, 0),
  (22, .aload_n 0, 1, 0, 0, 0, 0, 0),
  (23, .getfield 38, 3, 0, 11, 18, 0, 0),
  (26, .bipush 12, 2, 0, 0, 0, 12, 0),
  (28, .iload_n 2, 1, 0, 0, 0, 0, 0),
  (29, .imul, 1, 0, 0, 0, 0, 0),
  (30, .iload_n 1, 1, 0, 0, 0, 0, 0),
  (31, .iadd, 1, 0, 0, 0, 0, 0),
  (32, .iaload, 1, 0, 30, 0, 0, 0),
  (33, .istore 4, 2, 0, 0, 0, 0, 0),
  (35, .iload_n 2, 1, 0, 0, 0, 0, 0),
  (36, .ifCond .ge 7, 3, 0, 2, 0, 0, 0),
  (39, .iconst 0, 1, 0, 0, 0, 0, 0),
  (40, .goto 9, 3, 0, 30, 1, 0, 0),
  (43, .aload_n 0, 1, 0, 0, 0, 0, 0),
  (44, .getfield 23, 3, 0, 11, 13, 0, 0),
  (47, .iload_n 2, 1, 0, 0, 0, 0, 0),
  (48, .iaload, 1, 0, 30, 0, 0, 0),
  (49, .istore 5, 2, 31, 0, 0, 0, 0),
  (51, .iload 5, 2, 0, 0, 0, 0, 0),
  (53, .iconst 2, 1, 0, 0, 0, 2, 0),
  (54, .if_icmp .ne 7, 3, 0, 2, 0, 0, 0),
  (57, .iconst 1, 1, 0, 0, 0, 1, 0),
  (58, .goto 33, 3, 0, 53, 1, 0, 0),
  (61, .iload 5, 2, 0, 0, 0, 0, 0),
  (63, .iconst 1, 1, 0, 0, 0, 1, 0),
  (64, .if_icmp .ne 18, 3, 0, 8, 0, 0, 0),
  (67, .aload_n 0, 1, 0, 0, 0, 0, 0),
  (68, .getfield 32, 3, 0, 11, 16, 0, 0),
  (71, .iload_n 1, 1, 0, 0, 0, 0, 0),
  (72, .iaload, 1, 0, 30, 0, 0, 0),
  (73, .bipush 9, 2, 0, 0, 0, 9, 0),
  (75, .if_icmp .le 7, 3, 0, 2, 0, 0, 0),
  (78, .iconst 0, 1, 0, 0, 0, 0, 0),
  (79, .goto 12, 3, 0, 53, 1, 0, 0),
  (82, .aload_n 0, 1, 0, 0, 0, 0, 0),
  (83, .getfield 29, 3, 0, 11, 15, 0, 0),
  (86, .iload_n 1, 1, 0, 0, 0, 0, 0),
  (87, .iaload, 1, 0, 30, 0, 0, 0),
  (88, .iload 4, 2, 0, 0, 0, 0, 0),
  (90, .iadd, 1, 0, 0, 0, 0, 0),
  (91, .istore 6, 2, 54, 0, 0, 0, 0),
  (93, .aload_n 0, 1, 0, 0, 0, 0, 0),
  (94, .getfield 47, 3, 0, 11, 21, 0, 0),
  (97, .iconst 0, 1, 0, 0, 0, 0, 0),
  (98, .iaload, 1, 0, 30, 0, 0, 0),
  (99, .aload_n 0, 1, 0, 0, 0, 0, 0),
  (100, .getfield 44, 3, 0, 11, 20, 0, 0),
  (103, .iconst 0, 1, 0, 0, 0, 0, 0),
  (104, .iaload, 1, 0, 30, 0, 0, 0),
  (105, .if_icmp .le 64, 3, 0, 103, 1, 0, 0),
  (108, .aload_n 0, 1, 0, 0, 0, 0, 0),
  (109, .getfield 87, 3, 0, 11, 37, 0, 0),
  (112, .iconst 1, 1, 0, 0, 0, 1, 0),
  (113, .aload_n 0, 1, 0, 0, 0, 0, 0),
  (114, .getfield 29, 3, 0, 11, 15, 0, 0),
  (117, .iload_n 1, 1, 0, 0, 0, 0, 0),
  (118, .iaload, 1, 0, 30, 0, 0, 0),
  (119, .iastore, 1, 0, 30, 0, 0, 0),
  (120, .aload_n 0, 1, 0, 0, 0, 0, 0),
  (121, .getfield 87, 3, 0, 11, 37, 0, 0),
  (124, .iconst 2, 1, 0, 0, 0, 2, 0),
  (125, .iload 4, 2, 0, 0, 0, 0, 0),
  (127, .iastore, 1, 0, 30, 0, 0, 0),
  (128, .aload_n 0, 1, 0, 0, 0, 0, 0),
  (129, .getfield 87, 3, 0, 11, 37, 0, 0),
  (132, .iconst 3, 1, 0, 0, 0, 3, 0),
  (133, .aload_n 0, 1, 0, 0, 0, 0, 0),
  (134, .getfield 32, 3, 0, 11, 16, 0, 0),
  (137, .iload_n 1, 1, 0, 0, 0, 0, 0),
  (138, .iaload, 1, 0, 30, 0, 0, 0),
  (139, .iastore, 1, 0, 30, 0, 0, 0),
  (140, .aload_n 0, 1, 0, 0, 0, 0, 0),
  (141, .getfield 87, 3, 0, 11, 37, 0, 0),
  (144, .iconst 4, 1, 0, 0, 0, 4, 0),
  (145, .aload_n 0, 1, 0, 0, 0, 0, 0),
  (146, .getfield 105, 3, 0, 11, 45, 0, 0),
  (149, .bipush 8, 2, 0, 0, 0, 8, 0),
  (151, .iload_n 1, 1, 0, 0, 0, 0, 0),
  (152, .iadd, 1, 0, 0, 0, 0, 0),
  (153, .iaload, 1, 0, 30, 0, 0, 0),
  (154, .iastore, 1, 0, 30, 0, 0, 0),
  (155, .aload_n 0, 1, 0, 0, 0, 0, 0),
  (156, .getfield 87, 3, 0, 11, 37, 0, 0),
  (159, .iconst 5, 1, 0, 0, 0, 5, 0),
  (160, .iload_n 3, 1, 0, 0, 0, 0, 0),
  (161, .iastore, 1, 0, 30, 0, 0, 0),
  (162, .aload_n 0, 1, 0, 0, 0, 0, 0),
  (163, .iconst 0, 1, 0, 0, 0, 0, 0),
  (164, .invokevirtual 353, 3, 0, 16, 18, 0, 0),
  (167, .istore 6, 2, 0, 0, 0, 0, 0),
  (169, .iload 6, 2, 104, 0, 0, 0, 0),
  (171, .iconst 0, 1, 0, 0, 0, 0, 0),
  (172, .bipush 99, 2, 0, 0, 0, 99, 0),
  (174, .invokestatic 356, 3, 0, 2, 19, 0, 0),
  (177, .istore 6, 2, 0, 0, 0, 0, 0),
  (179, .iload 5, 2, 0, 0, 0, 0, 0),
  (181, .iconst 3, 1, 0, 0, 0, 3, 0),
  (182, .if_icmp .ne 12, 3, 0, 4, 0, 0, 0),
  (185, .iconst 1, 1, 0, 0, 0, 1, 0),
  (186, .iload 6, 2, 0, 0, 0, 0, 0),
  (188, .invokestatic 360, 3, 0, 5000, 18, 0, 0),
  (191, .goto 5, 3, 0, 1, 0, 0, 0),
  (194, .iload 6, 2, 0, 0, 0, 0, 0),
  (196, .ireturn, 1, 0, 0, 0, 0, 0)]
def lM45 (q : Nat) : Nat := cond (Nat.ble q 30) (27) (cond (Nat.ble q 53) (59) (96))
def kM46 : List aE := [(0, .iload_n 1, 1, 0, 0, 0, 0, 0),
  (1, .ifCond .ne 7, 3, 0, 2, 0, 0, 0),
  (4, .iconst 0, 1, 0, 0, 0, 0, 0),
  (5, .goto 18, 3, 0, 11, 0, 0, 0),
  (8, .aload_n 0, 1, 0, 0, 0, 0, 0),
  (9, .getfield 32, 3, 0, 11, 16, 0, 0),
  (12, .aload_n 0, 1, 0, 0, 0, 0, 0),
  (13, .getfield 105, 3, 0, 11, 45, 0, 0),
  (16, .iconst 4, 1, 0, 0, 0, 4, 0),
  (17, .iload_n 1, 1, 0, 0, 0, 0, 0),
  (18, .iadd, 1, 0, 0, 0, 0, 0),
  (19, .iconst 1, 1, 0, 0, 0, 1, 0),
  (20, .isub, 1, 0, 0, 0, 0, 0),
  (21, .iaload, 1, 0, 30, 0, 0, 0),
  (22, .iaload, 1, 0, 30, 0, 0, 0),
  (23, .ireturn, 1, 0, 0, 0, 0, 0)]
def lM46 (q : Nat) : Nat := 0
def kM47 : List aE := [(0, .aload_n 0, 1, 0, 0, 0, 0, 0),
  (1, .iload_n 1, 1, 0, 0, 0, 0, 0),
  (2, .aload_n 0, 1, 0, 0, 0, 0, 0),
  (3, .aload_n 0, 1, 0, 0, 0, 0, 0),
  (4, .getfield 105, 3, 0, 11, 45, 0, 0),
  (7, .iconst 0, 1, 0, 0, 0, 0, 0),
  (8, .iaload, 1, 0, 30, 0, 0, 0),
  (9, .aload_n 0, 1, 0, 0, 0, 0, 0),
  (10, .getfield 105, 3, 0, 11, 45, 0, 0),
  (13, .iconst 1, 1, 0, 0, 0, 1, 0),
  (14, .iaload, 1, 0, 30, 0, 0, 0),
  (15, .invokevirtual 366, 3, 0, 44, 19, 0, 0),
  (18, .aload_n 0, 1, 0, 0, 0, 0, 0),
  (19, .aload_n 0, 1, 0, 0, 0, 0, 0),
  (20, .getfield 105, 3, 0, 11, 45, 0, 0),
  (23, .iconst 1, 1, 0, 0, 0, 1, 0),
  (24, .iaload, 1, 0, 30, 0, 0, 0),
  (25, .invokevirtual 369, 3, 0, 46, 18, 0, 0),
  (28, .invokevirtual 372, 3, 0, 45, 20, 0, 0),
  (31, .ireturn, 1, 0, 0, 0, 0, 0)]
def lM47 (q : Nat) : Nat := 0
def kM48 : List aE := [(0, .iconst 0, 1, 0, 0, 0, 0, 0),
  (1, .istore 4, 2, 0, 0, 0, 0, 0),
  (3, .iconst 0, 1, 0, 0, 0, 0, 0),
  (4, .istore 5, 2, 0, 0, 0, 0, 0),
  (6, .iload 5, 2, 5, 0, 0, 0, 0),
  (8, .aload_n 0, 1, 0, 0, 0, 0, 0),
  (9, .getfield 13, 3, 0, 11, 10, 0, 0),
  (12, .iconst 1, 1, 0, 0, 0, 1, 0),
  (13, .iaload, 1, 0, 30, 0, 0, 0),
  (14, .if_icmp .ge 37, 3, 0, 18, 0, 0, 0),
  (17, .iload 4, 2, 0, 0, 0, 0, 0),
  (19, .aload_n 0, 1, 0, 0, 0, 0, 0),
  (20, .getfield 26, 3, 0, 11, 14, 0, 0),
  (23, .iload 5, 2, 0, 0, 0, 0, 0),
  (25, .iaload, 1, 0, 30, 0, 0, 0),
  (26, .iload_n 1, 1, 0, 0, 0, 0, 0),
  (27, .if_icmp .ne 14, 3, 0, 6, 0, 0, 0),
  (30, .aload_n 0, 1, 0, 0, 0, 0, 0),
  (31, .iload 5, 2, 0, 0, 0, 0, 0),
  (33, .iload_n 2, 1, 0, 0, 0, 0, 0),
  (34, .iload_n 3, 1, 0, 0, 0, 0, 0),
  (35, .invokevirtual 372, 3, 0, 45, 20, 0, 0),
  (38, .goto 4, 3, 0, 1, 0, 0, 0),
  (41, .iconst 0, 1, 0, 0, 0, 0, 0),
  (42, .iadd, 1, 0, 0, 0, 0, 0),
  (43, .istore 4, 2, 0, 0, 0, 0, 0),
  (45, .iinc 5 1, 3, 0, 0, 0, 1, 0),
  (48, .goto (-42), 3, 0, 4, 1, 0, 0),
  (51, .iload 4, 2, 0, 0, 0, 0, 0),
  (53, .ireturn, 1, 0, 0, 0, 0, 0)]
def lM48 (q : Nat) : Nat := 63
def kM49 : List aE := [(0, .iload_n 1, 1, 0, 0, 0, 0, 0),
  (1, .istore_n 3, 1, 0, 0, 0, 0, 0),
  (2, .aload_n 0, 1, 0, 0, 0, 0, 0),
  (3, .getfield 47, 3, 0, 11, 21, 0, 0),
  (6, .iconst 1, 1, 0, 0, 0, 1, 0),
  (7, .iaload, 1, 0, 30, 0, 0, 0),
  (8, .aload_n 0, 1, 0, 0, 0, 0, 0),
  (9, .getfield 44, 3, 0, 11, 20, 0, 0),
  (12, .iconst 1, 1, 0, 0, 0, 1, 0),
  (13, .iaload, 1, 0, 30, 0, 0, 0),
  (14, .if_icmp .le 38, 3, 0, 22, 0, 0, 0),
  (17, .aload_n 0, 1, 0, 0, 0, 0, 0),
  (18, .getfield 87, 3, 0, 11, 37, 0, 0),
  (21, .bipush 6, 2, 0, 0, 0, 6, 0),
  (23, .iload_n 1, 1, 0, 0, 0, 0, 0),
  (24, .iastore, 1, 0, 30, 0, 0, 0),
  (25, .aload_n 0, 1, 0, 0, 0, 0, 0),
  (26, .getfield 87, 3, 0, 11, 37, 0, 0),
  (29, .bipush 7, 2, 0, 0, 0, 7, 0),
  (31, .iload_n 2, 1, 0, 0, 0, 0, 0),
  (32, .iastore, 1, 0, 30, 0, 0, 0),
  (33, .aload_n 0, 1, 0, 0, 0, 0, 0),
  (34, .getfield 87, 3, 0, 11, 37, 0, 0),
  (37, .bipush 8, 2, 0, 0, 0, 8, 0),
  (39, .aload_n 0, 1, 0, 0, 0, 0, 0),
  (40, .getfield 105, 3, 0, 11, 45, 0, 0),
  (43, .iconst 3, 1, 0, 0, 0, 3, 0),
  (44, .iaload, 1, 0, 30, 0, 0, 0),
  (45, .iastore, 1, 0, 30, 0, 0, 0),
  (46, .aload_n 0, 1, 0, 0, 0, 0, 0),
  (47, .iconst 1, 1, 0, 0, 0, 1, 0),
  (48, .invokevirtual 353, 3, 0, 16, 18, 0, 0),
  (51, .istore_n 3, 1, 0, 0, 0, 0, 0),
  (52, .iload_n 3, 1, 0, 0, 0, 0, 0),
  (53, .iconst 0, 1, 0, 0, 0, 0, 0),
  (54, .bipush 99, 2, 0, 0, 0, 99, 0),
  (56, .invokestatic 356, 3, 0, 2, 19, 0, 0),
  (59, .ireturn, 1, 0, 0, 0, 0, 0)]
def lM49 (q : Nat) : Nat := 0
def kM50 : List aE := [(0, .aload_n 0, 1, 0, 0, 0, 0, 0),
  (1, .iconst 0, 1, 0, 0, 0, 0, 0),
  (2, .putfield 135, 3, 0, 11, 0, 0, 0),
  (5, .aload_n 0, 1, 0, 0, 0, 0, 0),
  (6, .iload_n 1, 1, 0, 0, 0, 0, 0),
  (7, .invokevirtual 375, 3, 0, 42, 18, 0, 0),
  (10, .ifCond .eq 17, 3, 0, 8, 0, 0, 0),
  (13, .iload_n 2, 1, 0, 0, 0, 0, 0),
  (14, .ifCond .lt 13, 3, 0, 6, 0, 0, 0),
  (17, .iload_n 2, 1, 0, 0, 0, 0, 0),
  (18, .aload_n 0, 1, 0, 0, 0, 0, 0),
  (19, .getfield 13, 3, 0, 11, 10, 0, 0),
  (22, .iconst 1, 1, 0, 0, 0, 1, 0),
  (23, .iaload, 1, 0, 30, 0, 0, 0),
  (24, .if_icmp .le 6, 3, 0, 2, 0, 0, 0),
  (27, .bipush (-2), 2, 0, 0, 0, -2, 0),
  (29, .ireturn, 1, 0, 0, 0, 0, 0),
  (30, .iload_n 2, 1, 0, 0, 0, 0, 0),
  (31, .ifCond .ne 12, 3, 0, 5, 0, 0, 0),
  (34, .aload_n 0, 1, 0, 0, 0, 0, 0),
  (35, .getfield 23, 3, 0, 11, 13, 0, 0),
  (38, .iload_n 1, 1, 0, 0, 0, 0, 0),
  (39, .iaload, 1, 0, 30, 0, 0, 0),
  (40, .goto 16, 3, 0, 10, 0, 0, 0),
  (43, .aload_n 0, 1, 0, 0, 0, 0, 0),
  (44, .getfield 38, 3, 0, 11, 18, 0, 0),
  (47, .bipush 12, 2, 0, 0, 0, 12, 0),
  (49, .iload_n 1, 1, 0, 0, 0, 0, 0),
  (50, .imul, 1, 0, 0, 0, 0, 0),
  (51, .iload_n 2, 1, 0, 0, 0, 0, 0),
  (52, .iadd, 1, 0, 0, 0, 0, 0),
  (53, .iconst 1, 1, 0, 0, 0, 1, 0),
  (54, .isub, 1, 0, 0, 0, 0, 0),
  (55, .iaload, 1, 0, 30, 0, 0, 0),
  (56, .ireturn, 1, 0, 0, 0, 0, 0)]
def lM50 (q : Nat) : Nat := 0
def kM51 : List aE := [(0, .aload_n 0, 1, 0, 0, 0, 0, 0),
  (1, .iconst 0, 1, 0, 0, 0, 0, 0),
  (2, .putfield 135, 3, 0, 11, 0, 0, 0),
  (5, .aload_n 0, 1, 0, 0, 0, 0, 0),
  (6, .iload_n 1, 1, 0, 0, 0, 0, 0),
  (7, .invokevirtual 378, 3, 0, 43, 18, 0, 0),
  (10, .ifCond .eq 12, 3, 0, 5, 0, 0, 0),
  (13, .iload_n 2, 1, 0, 0, 0, 0, 0),
  (14, .iconst 0, 1, 0, 0, 0, 0, 0),
  (15, .iconst 4, 1, 0, 0, 0, 4, 0),
  (16, .invokestatic 269, 3, 0, 1, 19, 0, 0),
  (19, .ifCond .ne 6, 3, 0, 2, 0, 0, 0),
  (22, .bipush (-2), 2, 0, 0, 0, -2, 0),
  (24, .ireturn, 1, 0, 0, 0, 0, 0),
  (25, .iload_n 2, 1, 0, 0, 0, 0, 0),
  (26, .iconst 3, 1, 0, 0, 0, 3, 0),
  (27, .if_icmp .ge 37, 3, 0, 20, 0, 0, 0),
  (30, .iload_n 2, 1, 0, 0, 0, 0, 0),
  (31, .ifCond .ne 12, 3, 0, 5, 0, 0, 0),
  (34, .aload_n 0, 1, 0, 0, 0, 0, 0),
  (35, .getfield 26, 3, 0, 11, 14, 0, 0),
  (38, .iload_n 1, 1, 0, 0, 0, 0, 0),
  (39, .iaload, 1, 0, 30, 0, 0, 0),
  (40, .goto 23, 3, 0, 12, 0, 0, 0),
  (43, .iload_n 2, 1, 0, 0, 0, 0, 0),
  (44, .iconst 1, 1, 0, 0, 0, 1, 0),
  (45, .if_icmp .ne 12, 3, 0, 5, 0, 0, 0),
  (48, .aload_n 0, 1, 0, 0, 0, 0, 0),
  (49, .getfield 29, 3, 0, 11, 15, 0, 0),
  (52, .iload_n 1, 1, 0, 0, 0, 0, 0),
  (53, .iaload, 1, 0, 30, 0, 0, 0),
  (54, .goto 9, 3, 0, 4, 0, 0, 0),
  (57, .aload_n 0, 1, 0, 0, 0, 0, 0),
  (58, .getfield 32, 3, 0, 11, 16, 0, 0),
  (61, .iload_n 1, 1, 0, 0, 0, 0, 0),
  (62, .iaload, 1, 0, 30, 0, 0, 0),
  (63, .ireturn, 1, 0, 0, 0, 0, 0),
  (64, .iload_n 2, 1, 0, 0, 0, 0, 0),
  (65, .iconst 3, 1, 0, 0, 0, 3, 0),
  (66, .if_icmp .ne 15, 3, 0, 7, 0, 0, 0),
  (69, .aload_n 0, 1, 0, 0, 0, 0, 0),
  (70, .getfield 105, 3, 0, 11, 45, 0, 0),
  (73, .bipush 8, 2, 0, 0, 0, 8, 0),
  (75, .iload_n 1, 1, 0, 0, 0, 0, 0),
  (76, .iadd, 1, 0, 0, 0, 0, 0),
  (77, .iaload, 1, 0, 30, 0, 0, 0),
  (78, .goto 27, 3, 0, 14, 0, 0, 0),
  (81, .aload_n 0, 1, 0, 0, 0, 0, 0),
  (82, .getfield 26, 3, 0, 11, 14, 0, 0),
  (85, .iload_n 1, 1, 0, 0, 0, 0, 0),
  (86, .iaload, 1, 0, 30, 0, 0, 0),
  (87, .aload_n 0, 1, 0, 0, 0, 0, 0),
  (88, .getfield 105, 3, 0, 11, 45, 0, 0),
  (91, .iconst 1, 1, 0, 0, 0, 1, 0),
  (92, .iaload, 1, 0, 30, 0, 0, 0),
  (93, .if_icmp .ne 11, 3, 0, 4, 0, 0, 0),
  (96, .aload_n 0, 1, 0, 0, 0, 0, 0),
  (97, .iload_n 1, 1, 0, 0, 0, 0, 0),
  (98, .invokevirtual 381, 3, 0, 47, 18, 0, 0),
  (101, .goto 4, 3, 0, 1, 0, 0, 0),
  (104, .iconst (-1), 1, 0, 0, 0, -1, 0),
  (105, .ireturn, 1, 0, 0, 0, 0, 0)]
def lM51 (q : Nat) : Nat := 0
def kM52 : List aE := [(0, .aload_n 0, 1, 0, 0, 0, 0, 0),
  (1, .iconst 0, 1, 0, 0, 0, 0, 0),
  (2, .putfield 135, 3, 0, 11, 0, 0, 0),
  (5, .iload_n 1, 1, 0, 0, 0, 0, 0),
  (6, .ifCond .lt 24, 3, 0, 13, 0, 0, 0),
  (9, .iload_n 1, 1, 0, 0, 0, 0, 0),
  (10, .aload_n 0, 1, 0, 0, 0, 0, 0),
  (11, .getfield 105, 3, 0, 11, 45, 0, 0),
  (14, .iconst 1, 1, 0, 0, 0, 1, 0),
  (15, .iaload, 1, 0, 30, 0, 0, 0),
  (16, .if_icmp .ge 14, 3, 0, 7, 0, 0, 0),
  (19, .aload_n 0, 1, 0, 0, 0, 0, 0),
  (20, .getfield 105, 3, 0, 11, 45, 0, 0),
  (23, .iconst 4, 1, 0, 0, 0, 4, 0),
  (24, .iload_n 1, 1, 0, 0, 0, 0, 0),
  (25, .iadd, 1, 0, 0, 0, 0, 0),
  (26, .iaload, 1, 0, 30, 0, 0, 0),
  (27, .goto 4, 3, 0, 1, 0, 0, 0),
  (30, .iconst (-1), 1, 0, 0, 0, -1, 0),
  (31, .ireturn, 1, 0, 0, 0, 0, 0)]
def lM52 (q : Nat) : Nat := 0
def kM53 : List aE := [(0, .aload_n 0, 1, 0, 0, 0, 0, 0),
  (1, .iconst 0, 1, 0, 0, 0, 0, 0),
  (2, .putfield 135, 3, 0, 11, 0, 0, 0),
  (5, .iload_n 1, 1, 0, 0, 0, 0, 0),
  (6, .ifCond .lt 43, 3, 0, 25, 0, 0, 0),
  (9, .iload_n 1, 1, 0, 0, 0, 0, 0),
  (10, .aload_n 0, 1, 0, 0, 0, 0, 0),
  (11, .getfield 105, 3, 0, 11, 45, 0, 0),
  (14, .iconst 3, 1, 0, 0, 0, 3, 0),
  (15, .iaload, 1, 0, 30, 0, 0, 0),
  (16, .if_icmp .ge 33, 3, 0, 19, 0, 0, 0),
  (19, .iload_n 2, 1, 0, 0, 0, 0, 0),
  (20, .ifCond .lt 29, 3, 0, 17, 0, 0, 0),
  (23, .iload_n 2, 1, 0, 0, 0, 0, 0),
  (24, .aload_n 0, 1, 0, 0, 0, 0, 0),
  (25, .getfield 13, 3, 0, 11, 10, 0, 0),
  (28, .iconst 2, 1, 0, 0, 0, 2, 0),
  (29, .iaload, 1, 0, 30, 0, 0, 0),
  (30, .if_icmp .ge 19, 3, 0, 11, 0, 0, 0),
  (33, .aload_n 0, 1, 0, 0, 0, 0, 0),
  (34, .getfield 105, 3, 0, 11, 45, 0, 0),
  (37, .bipush 20, 2, 0, 0, 0, 20, 0),
  (39, .iconst 4, 1, 0, 0, 0, 4, 0),
  (40, .iload_n 1, 1, 0, 0, 0, 0, 0),
  (41, .imul, 1, 0, 0, 0, 0, 0),
  (42, .iadd, 1, 0, 0, 0, 0, 0),
  (43, .iload_n 2, 1, 0, 0, 0, 0, 0),
  (44, .iadd, 1, 0, 0, 0, 0, 0),
  (45, .iaload, 1, 0, 30, 0, 0, 0),
  (46, .goto 4, 3, 0, 1, 0, 0, 0),
  (49, .iconst (-1), 1, 0, 0, 0, -1, 0),
  (50, .ireturn, 1, 0, 0, 0, 0, 0)]
def lM53 (q : Nat) : Nat := 0
def kM54 : List aE := [(0, .aload_n 0, 1, 0, 0, 0, 0, 0),
  (1, .getfield 343, 3, 0, 11, 50, 0, 0),
  (4, .bipush 16, 2, 0, 0, 0, 16, 0),
  (6, .if_icmp .ne 43, 3, 0, 27, 1, 0, 0),
  (9, .iconst 0, 1, 0, 0, 0, 0, 0),
  (10, .istore_n 1, 1, 0, 0, 0, 0, 0),
  (11, .iload_n 1, 1, 7, 0, 0, 0, 0),
  (12, .sipush 900, 3, 0, 0, 0, 900, 0),
  (15, .if_icmp .ge 24, 3, 0, 12, 0, 0, 0),
  (18, .aload_n 0, 1, 0, 0, 0, 0, 0),
  (19, .getfield 114, 3, 0, 11, 48, 0, 0),
  (22, .iload_n 1, 1, 0, 0, 0, 0, 0),
  (23, .aload_n 0, 1, 0, 0, 0, 0, 0),
  (24, .getfield 114, 3, 0, 11, 48, 0, 0),
  (27, .iload_n 1, 1, 0, 0, 0, 0, 0),
  (28, .bipush 60, 2, 0, 0, 0, 60, 0),
  (30, .iadd, 1, 0, 0, 0, 0, 0),
  (31, .iaload, 1, 0, 30, 0, 0, 0),
  (32, .iastore, 1, 0, 30, 0, 0, 0),
  (33, .iinc 1 1, 3, 0, 0, 0, 1, 0),
  (36, .goto (-25), 3, 0, 6, 1, 0, 0),
  (39, .aload_n 0, 1, 0, 0, 0, 0, 0),
  (40, .dup, 1, 0, 0, 0, 0, 0),
  (41, .getfield 343, 3, 0, 11, 50, 0, 0),
  (44, .iconst 1, 1, 0, 0, 0, 1, 0),
  (45, .isub, 1, 0, 0, 0, 0, 0),
  (46, .putfield 343, 3, 0, 11, 50, 0, 0),
  (49, .aload_n 0, 1, 28, 0, 0, 0, 0),
  (50, .getfield 105, 3, 0, 11, 45, 0, 0),
  (53, .iconst 0, 1, 0, 0, 0, 0, 0),
  (54, .aload_n 0, 1, 0, 0, 0, 0, 0),
  (55, .getfield 114, 3, 0, 11, 48, 0, 0),
  (58, .bipush 60, 2, 0, 0, 0, 60, 0),
  (60, .aload_n 0, 1, 0, 0, 0, 0, 0),
  (61, .getfield 343, 3, 0, 11, 50, 0, 0),
  (64, .imul, 1, 0, 0, 0, 0, 0),
  (65, .invokestatic 384, 3, 0, 35, 4, 0, 0),
  (68, .aload_n 0, 1, 0, 0, 0, 0, 0),
  (69, .dup, 1, 0, 0, 0, 0, 0),
  (70, .getfield 343, 3, 0, 11, 50, 0, 0),
  (73, .iconst 1, 1, 0, 0, 0, 1, 0),
  (74, .iadd, 1, 0, 0, 0, 0, 0),
  (75, .putfield 343, 3, 0, 11, 50, 0, 0),
  (78, .return_, 1, 0, 0, 0, 0, 0)]
def lM54 (q : Nat) : Nat := cond (Nat.ble q 6) (3) (1)
def kM55 : List aE := [(0, .aload_n 0, 1, 0, 0, 0, 0, 0),
  (1, .getfield 26, 3, 0, 11, 14, 0, 0),
  (4, .iload_n 1, 1, 0, 0, 0, 0, 0),
  (5, .iaload, 1, 0, 30, 0, 0, 0),
  (6, .aload_n 0, 1, 0, 0, 0, 0, 0),
  (7, .getfield 105, 3, 0, 11, 45, 0, 0),
  (10, .iconst 1, 1, 0, 0, 0, 1, 0),
  (11, .iaload, 1, 0, 30, 0, 0, 0),
  (12, .if_icmp .ne 19, 3, 0, 9, 0, 0, 0),
  (15, .aload_n 0, 1, 0, 0, 0, 0, 0),
  (16, .getfield 105, 3, 0, 11, 45, 0, 0),
  (19, .bipush 8, 2, 0, 0, 0, 8, 0),
  (21, .iload_n 1, 1, 0, 0, 0, 0, 0),
  (22, .iadd, 1, 0, 0, 0, 0, 0),
  (23, .iaload, 1, 0, 30, 0, 0, 0),
  (24, .ifCond .le 7, 3, 0, 2, 0, 0, 0),
  (27, .iconst 1, 1, 0, 0, 0, 1, 0),
  (28, .goto 4, 3, 0, 1, 0, 0, 0),
  (31, .iconst 0, 1, 0, 0, 0, 0, 0),
  (32, .ireturn, 1, 0, 1, 0, 0, 0)]
def lM55 (q : Nat) : Nat := 0
def kM56 : List aE := [(0, .bipush 20, 2, 0, 0, 0, 20, 0),
  (2, .iconst 4, 1, 0, 0, 0, 4, 0),
  (3, .iload_n 1, 1, 0, 0, 0, 0, 0),
  (4, .imul, 1, 0, 0, 0, 0, 0),
  (5, .iadd, 1, 0, 0, 0, 0, 0),
  (6, .istore_n 2, 1, 0, 0, 0, 0, 0),
  (7, .iload_n 2, 1, 7, 0, 0, 0, 0),
  (8, .bipush 56, 2, 0, 0, 0, 56, 0),
  (10, .if_icmp .ge 23, 3, 0, 12, 0, 0, 0),
  (13, .aload_n 0, 1, 0, 0, 0, 0, 0),
  (14, .getfield 105, 3, 0, 11, 45, 0, 0),
  (17, .iload_n 2, 1, 0, 0, 0, 0, 0),
  (18, .aload_n 0, 1, 0, 0, 0, 0, 0),
  (19, .getfield 105, 3, 0, 11, 45, 0, 0),
  (22, .iload_n 2, 1, 0, 0, 0, 0, 0),
  (23, .iconst 4, 1, 0, 0, 0, 4, 0),
  (24, .iadd, 1, 0, 0, 0, 0, 0),
  (25, .iaload, 1, 0, 30, 0, 0, 0),
  (26, .iastore, 1, 0, 30, 0, 0, 0),
  (27, .iinc 2 1, 3, 0, 0, 0, 1, 0),
  (30, .goto (-23), 3, 0, 6, 1, 0, 0),
  (33, .aload_n 0, 1, 0, 0, 0, 0, 0),
  (34, .getfield 105, 3, 0, 11, 45, 0, 0),
  (37, .iconst 3, 1, 0, 0, 0, 3, 0),
  (38, .dup2, 1, 0, 0, 0, 0, 0),
  (39, .iaload, 1, 0, 30, 0, 0, 0),
  (40, .iconst 1, 1, 0, 0, 0, 1, 0),
  (41, .isub, 1, 0, 0, 0, 0, 0),
  (42, .iastore, 1, 0, 30, 0, 0, 0),
  (43, .return_, 1, 0, 0, 0, 0, 0)]
def lM56 (q : Nat) : Nat := 5
def kM57 : List aE := [(0, .iconst 0, 1, 0, 0, 0, 0, 0),
  (1, .istore_n 1, 1, 0, 0, 0, 0, 0),
  (2, .iconst 0, 1, 0, 0, 0, 0, 0),
  (3, .istore_n 2, 1, 0, 0, 0, 0, 0),
  (4, .iconst 0, 1, 0, 0, 0, 0, 0),
  (5, .istore_n 3, 1, 0, 0, 0, 0, 0),
  (6, .iload_n 3, 1, 7, 0, 0, 0, 0),
  (7, .aload_n 0, 1, 0, 0, 0, 0, 0),
  (8, .getfield 13, 3, 0, 11, 10, 0, 0),
  (11, .iconst 2, 1, 0, 0, 0, 2, 0),
  (12, .iaload, 1, 0, 30, 0, 0, 0),
  (13, .if_icmp .ge 43, 3, 0, 26, 0, 0, 0),
  (16, .iload_n 1, 1, 0, 0, 0, 0, 0),
  (17, .aload_n 0, 1, 0, 0, 0, 0, 0),
  (18, .getfield 32, 3, 0, 11, 16, 0, 0),
  (21, .aload_n 0, 1, 0, 0, 0, 0, 0),
  (22, .getfield 105, 3, 0, 11, 45, 0, 0),
  (25, .iconst 4, 1, 0, 0, 0, 4, 0),
  (26, .iload_n 3, 1, 0, 0, 0, 0, 0),
  (27, .iadd, 1, 0, 0, 0, 0, 0),
  (28, .iaload, 1, 0, 30, 0, 0, 0),
  (29, .iaload, 1, 0, 30, 0, 0, 0),
  (30, .iadd, 1, 0, 0, 0, 0, 0),
  (31, .istore_n 1, 1, 0, 0, 0, 0, 0),
  (32, .iload_n 2, 1, 0, 0, 0, 0, 0),
  (33, .aload_n 0, 1, 0, 0, 0, 0, 0),
  (34, .getfield 32, 3, 0, 11, 16, 0, 0),
  (37, .aload_n 0, 1, 0, 0, 0, 0, 0),
  (38, .getfield 105, 3, 0, 11, 45, 0, 0),
  (41, .iconst 4, 1, 0, 0, 0, 4, 0),
  (42, .iload_n 3, 1, 0, 0, 0, 0, 0),
  (43, .iadd, 1, 0, 0, 0, 0, 0),
  (44, .iaload, 1, 0, 30, 0, 0, 0),
  (45, .iaload, 1, 0, 30, 0, 0, 0),
  (46, .invokestatic 360, 3, 0, 5000, 18, 0, 0),
  (49, .istore_n 2, 1, 0, 0, 0, 0, 0),
  (50, .iinc 3 1, 3, 0, 0, 0, 1, 0),
  (53, .goto (-47), 3, 0, 6, 1, 0, 0),
  (56, .aload_n 0, 1, 0, 0, 0, 0, 0),
  (57, .aload_n 0, 1, 0, 0, 0, 0, 0),
  (58, .iload_n 1, 1, 0, 0, 0, 0, 0),
  (59, .iload_n 2, 1, 0, 0, 0, 0, 0),
  (60, .invokevirtual 388, 3, 0, 49, 19, 0, 0),
  (63, .putfield 391, 3, 0, 11, 51, 0, 0),
  (66, .aload_n 0, 1, 0, 0, 0, 0, 0),
  (67, .getfield 105, 3, 0, 11, 45, 0, 0),
  (70, .iconst 2, 1, 0, 0, 0, 2, 0),
  (71, .dup2, 1, 0, 0, 0, 0, 0),
  (72, .iaload, 1, 0, 30, 0, 0, 0),
  (73, .aload_n 0, 1, 0, 0, 0, 0, 0),
  (74, .getfield 391, 3, 0, 11, 51, 0, 0),
  (77, .iadd, 1, 0, 0, 0, 0, 0),
  (78, .iastore, 1, 0, 30, 0, 0, 0),
  (79, .aload_n 0, 1, 0, 0, 0, 0, 0),
  (80, .getfield 105, 3, 0, 11, 45, 0, 0),
  (83, .iconst 3, 1, 0, 0, 0, 3, 0),
  (84, .iaload, 1, 0, 30, 0, 0, 0),
  (85, .bipush 10, 2, 0, 0, 0, 10, 0),
  (87, .if_icmp .ne 8, 3, 0, 3, 0, 0, 0),
  (90, .aload_n 0, 1, 0, 0, 0, 0, 0),
  (91, .iconst 0, 1, 0, 0, 0, 0, 0),
  (92, .invokevirtual 394, 3, 0, 56, 2, 0, 0),
  (95, .iconst 0, 1, 0, 0, 0, 0, 0),
  (96, .istore_n 3, 1, 0, 0, 0, 0, 0),
  (97, .iload_n 3, 1, 65, 0, 0, 0, 0),
  (98, .aload_n 0, 1, 0, 0, 0, 0, 0),
  (99, .getfield 13, 3, 0, 11, 10, 0, 0),
  (102, .iconst 2, 1, 0, 0, 0, 2, 0),
  (103, .iaload, 1, 0, 30, 0, 0, 0),
  (104, .if_icmp .ge 35, 3, 0, 21, 0, 0, 0),
  (107, .aload_n 0, 1, 0, 0, 0, 0, 0),
  (108, .getfield 105, 3, 0, 11, 45, 0, 0),
  (111, .bipush 20, 2, 0, 0, 0, 20, 0),
  (113, .iconst 4, 1, 0, 0, 0, 4, 0),
  (114, .aload_n 0, 1, 0, 0, 0, 0, 0),
  (115, .getfield 105, 3, 0, 11, 45, 0, 0),
  (118, .iconst 3, 1, 0, 0, 0, 3, 0),
  (119, .iaload, 1, 0, 30, 0, 0, 0),
  (120, .imul, 1, 0, 0, 0, 0, 0),
  (121, .iadd, 1, 0, 0, 0, 0, 0),
  (122, .iload_n 3, 1, 0, 0, 0, 0, 0),
  (123, .iadd, 1, 0, 0, 0, 0, 0),
  (124, .aload_n 0, 1, 0, 0, 0, 0, 0),
  (125, .getfield 105, 3, 0, 11, 45, 0, 0),
  (128, .iconst 4, 1, 0, 0, 0, 4, 0),
  (129, .iload_n 3, 1, 0, 0, 0, 0, 0),
  (130, .iadd, 1, 0, 0, 0, 0, 0),
  (131, .iaload, 1, 0, 30, 0, 0, 0),
  (132, .iastore, 1, 0, 30, 0, 0, 0),
  (133, .iinc 3 1, 3, 0, 0, 0, 1, 0),
  (136, .goto (-39), 3, 0, 64, 1, 0, 0),
  (139, .aload_n 0, 1, 0, 0, 0, 0, 0),
  (140, .getfield 105, 3, 0, 11, 45, 0, 0),
  (143, .iconst 3, 1, 0, 0, 0, 3, 0),
  (144, .dup2, 1, 0, 0, 0, 0, 0),
  (145, .iaload, 1, 0, 30, 0, 0, 0),
  (146, .iconst 1, 1, 0, 0, 0, 1, 0),
  (147, .iadd, 1, 0, 0, 0, 0, 0),
  (148, .iastore, 1, 0, 30, 0, 0, 0),
  (149, .aload_n 0, 1, 0, 0, 0, 0, 0),
  (150, .getfield 105, 3, 0, 11, 45, 0, 0),
  (153, .iconst 1, 1, 0, 0, 0, 1, 0),
  (154, .iconst 0, 1, 0, 0, 0, 0, 0),
  (155, .iastore, 1, 0, 30, 0, 0, 0),
  (156, .aload_n 0, 1, 0, 0, 0, 0, 0),
  (157, .getfield 105, 3, 0, 11, 45, 0, 0),
  (160, .iconst 0, 1, 0, 0, 0, 0, 0),
  (161, .aload_n 0, 1, 0, 0, 0, 0, 0),
  (162, .getfield 13, 3, 0, 11, 10, 0, 0),
  (165, .iconst 0, 1, 0, 0, 0, 0, 0),
  (166, .iaload, 1, 0, 30, 0, 0, 0),
  (167, .ifCond .ne 7, 3, 0, 2, 0, 0, 0),
  (170, .iconst 0, 1, 0, 0, 0, 0, 0),
  (171, .goto 18, 3, 0, 11, 0, 0, 0),
  (174, .aload_n 0, 1, 0, 0, 0, 0, 0),
  (175, .getfield 105, 3, 0, 11, 45, 0, 0),
  (178, .iconst 0, 1, 0, 0, 0, 0, 0),
  (179, .iaload, 1, 0, 30, 0, 0, 0),
  (180, .iconst 1, 1, 0, 0, 0, 1, 0),
  (181, .iadd, 1, 0, 0, 0, 0, 0),
  (182, .aload_n 0, 1, 0, 0, 0, 0, 0),
  (183, .getfield 13, 3, 0, 11, 10, 0, 0),
  (186, .iconst 0, 1, 0, 0, 0, 0, 0),
  (187, .iaload, 1, 0, 30, 0, 0, 0),
  (188, .irem, 1, 0, 0, 0, 0, 0),
  (189, .iastore, 1, 0, 30, 0, 0, 0),
  (190, .return_, 1, 0, 0, 0, 0, 0)]
def lM57 (q : Nat) : Nat := cond (Nat.ble q 6) (15) (9)
def kM58 : List aE := [(0, .aload_n 0, 1, 0, 0, 0, 0, 0),
  (1, .getfield 105, 3, 0, 11, 45, 0, 0),
  (4, .bipush 8, 2, 0, 0, 0, 8, 0),
  (6, .iload_n 1, 1, 0, 0, 0, 0, 0),
  (7, .iadd, 1, 0, 0, 0, 0, 0),
  (8, .dup2, 1, 0, 0, 0, 0, 0),
  (9, .iaload, 1, 0, 30, 0, 0, 0),
  (10, .iconst 1, 1, 0, 0, 0, 1, 0),
  (11, .isub, 1, 0, 0, 0, 0, 0),
  (12, .iastore, 1, 0, 30, 0, 0, 0),
  (13, .aload_n 0, 1, 0, 0, 0, 0, 0),
  (14, .getfield 105, 3, 0, 11, 45, 0, 0),
  (17, .iconst 4, 1, 0, 0, 0, 4, 0),
  (18, .aload_n 0, 1, 0, 0, 0, 0, 0),
  (19, .getfield 105, 3, 0, 11, 45, 0, 0),
  (22, .iconst 1, 1, 0, 0, 0, 1, 0),
  (23, .iaload, 1, 0, 30, 0, 0, 0),
  (24, .iadd, 1, 0, 0, 0, 0, 0),
  (25, .iload_n 1, 1, 0, 0, 0, 0, 0),
  (26, .iastore, 1, 0, 30, 0, 0, 0),
  (27, .aload_n 0, 1, 0, 0, 0, 0, 0),
  (28, .getfield 105, 3, 0, 11, 45, 0, 0),
  (31, .iconst 1, 1, 0, 0, 0, 1, 0),
  (32, .dup2, 1, 0, 0, 0, 0, 0),
  (33, .iaload, 1, 0, 30, 0, 0, 0),
  (34, .iconst 1, 1, 0, 0, 0, 1, 0),
  (35, .iadd, 1, 0, 0, 0, 0, 0),
  (36, .iastore, 1, 0, 30, 0, 0, 0),
  (37, .aload_n 0, 1, 0, 0, 0, 0, 0),
  (38, .getfield 105, 3, 0, 11, 45, 0, 0),
  (41, .iconst 1, 1, 0, 0, 0, 1, 0),
  (42, .iaload, 1, 0, 30, 0, 0, 0),
  (43, .aload_n 0, 1, 0, 0, 0, 0, 0),
  (44, .getfield 13, 3, 0, 11, 10, 0, 0),
  (47, .iconst 2, 1, 0, 0, 0, 2, 0),
  (48, .iaload, 1, 0, 30, 0, 0, 0),
  (49, .if_icmp .ne 7, 3, 0, 2, 0, 0, 0),
  (52, .aload_n 0, 1, 0, 0, 0, 0, 0),
  (53, .invokevirtual 397, 3, 0, 57, 1, 0, 0),
  (56, .return_, 1, 0, 0, 0, 0, 0)]
def lM58 (q : Nat) : Nat := 0
def kM59 : List aE := [(0, .iconst 0, 1, 0, 0, 0, 0, 0),
  (1, .istore_n 2, 1, 0, 0, 0, 0, 0),
  (2, .iload_n 2, 1, 3, 0, 0, 0, 0),
  (3, .aload_n 0, 1, 0, 0, 0, 0, 0),
  (4, .getfield 13, 3, 0, 11, 10, 0, 0),
  (7, .iconst 2, 1, 0, 0, 0, 2, 0),
  (8, .iaload, 1, 0, 30, 0, 0, 0),
  (9, .if_icmp .ge 48, 3, 0, 29, 0, 0, 0),
  (12, .aload_n 0, 1, 0, 0, 0, 0, 0),
  (13, .getfield 105, 3, 0, 11, 45, 0, 0),
  (16, .bipush 20, 2, 0, 0, 0, 20, 0),
  (18, .iconst 4, 1, 0, 0, 0, 4, 0),
  (19, .iload_n 1, 1, 0, 0, 0, 0, 0),
  (20, .imul, 1, 0, 0, 0, 0, 0),
  (21, .iadd, 1, 0, 0, 0, 0, 0),
  (22, .iload_n 2, 1, 0, 0, 0, 0, 0),
  (23, .iadd, 1, 0, 0, 0, 0, 0),
  (24, .iaload, 1, 0, 30, 0, 0, 0),
  (25, .istore_n 3, 1, 0, 0, 0, 0, 0),
  (26, .aload_n 0, 1, 0, 0, 0, 0, 0),
  (27, .getfield 105, 3, 0, 11, 45, 0, 0),
  (30, .bipush 8, 2, 0, 0, 0, 8, 0),
  (32, .iload_n 3, 1, 0, 0, 0, 0, 0),
  (33, .iadd, 1, 0, 0, 0, 0, 0),
  (34, .bipush 9, 2, 0, 0, 0, 9, 0),
  (36, .aload_n 0, 1, 0, 0, 0, 0, 0),
  (37, .getfield 105, 3, 0, 11, 45, 0, 0),
  (40, .bipush 8, 2, 0, 0, 0, 8, 0),
  (42, .iload_n 3, 1, 0, 0, 0, 0, 0),
  (43, .iadd, 1, 0, 0, 0, 0, 0),
  (44, .iaload, 1, 0, 30, 0, 0, 0),
  (45, .iconst 1, 1, 0, 0, 0, 1, 0),
  (46, .iadd, 1, 0, 0, 0, 0, 0),
  (47, .invokestatic 400, 3, 0, 5001, 18, 0, 0),
  (50, .iastore, 1, 0, 30, 0, 0, 0),
  (51, .iinc 2 1, 3, 0, 0, 0, 1, 0),
  (54, .goto (-52), 3, 0, 2, 1, 0, 0),
  (57, .aload_n 0, 1, 0, 0, 0, 0, 0),
  (58, .iload_n 1, 1, 0, 0, 0, 0, 0),
  (59, .invokevirtual 394, 3, 0, 56, 2, 0, 0),
  (62, .return_, 1, 0, 0, 0, 0, 0)]
def lM59 (q : Nat) : Nat := 7
def kM60 : List aE := [(0, .aload_n 0, 1, 0, 0, 0, 0, 0),
  (1, .getfield 105, 3, 0, 11, 45, 0, 0),
  (4, .iconst 1, 1, 0, 0, 0, 1, 0),
  (5, .iaload, 1, 0, 30, 0, 0, 0),
  (6, .ifCond .ne 16, 3, 0, 7, 0, 0, 0),
  (9, .aload_n 0, 1, 0, 0, 0, 0, 0),
  (10, .getfield 13, 3, 0, 11, 10, 0, 0),
  (13, .iconst 0, 1, 0, 0, 0, 0, 0),
  (14, .iaload, 1, 0, 30, 0, 0, 0),
  (15, .ifCond .le 7, 3, 0, 2, 0, 0, 0),
  (18, .iconst 1, 1, 0, 0, 0, 1, 0),
  (19, .goto 4, 3, 0, 1, 0, 0, 0),
  (22, .iconst 0, 1, 0, 0, 0, 0, 0),
  (23, .ireturn, 1, 0, 1, 0, 0, 0)]
def lM60 (q : Nat) : Nat := 0
def kM61 : List aE := [(0, .aload_n 0, 1, 0, 0, 0, 0, 0),
  (1, .iconst 0, 1, 0, 0, 0, 0, 0),
  (2, .putfield 135, 3, 0, 11, 0, 0, 0),
  (5, .aload_n 0, 1, 0, 0, 0, 0, 0),
  (6, .iload_n 1, 1, 0, 0, 0, 0, 0),
  (7, .invokevirtual 378, 3, 0, 43, 18, 0, 0),
  (10, .ifCond .eq 11, 3, 0, 4, 0, 0, 0),
  (13, .aload_n 0, 1, 0, 0, 0, 0, 0),
  (14, .iload_n 1, 1, 0, 0, 0, 0, 0),
  (15, .invokevirtual 403, 3, 0, 55, 18, 0, 0),
  (18, .ifCond .ne 5, 3, 0, 2, 0, 0, 0),
  (21, .iconst (-1), 1, 0, 0, 0, -1, 0),
  (22, .ireturn, 1, 0, 0, 0, 0, 0),
  (23, .aload_n 0, 1, 0, 0, 0, 0, 0),
  (24, .invokevirtual 406, 3, 0, 54, 1, 0, 0),
  (27, .aload_n 0, 1, 0, 0, 0, 0, 0),
  (28, .iload_n 1, 1, 0, 0, 0, 0, 0),
  (29, .invokevirtual 409, 3, 0, 58, 2, 0, 0),
  (32, .aload_n 0, 1, 0, 0, 0, 0, 0),
  (33, .getfield 105, 3, 0, 11, 45, 0, 0),
  (36, .iconst 1, 1, 0, 0, 0, 1, 0),
  (37, .iaload, 1, 0, 30, 0, 0, 0),
  (38, .ireturn, 1, 0, 0, 0, 0, 0)]
def lM61 (q : Nat) : Nat := 0
def kM62 : List aE := [(0, .aload_n 0, 1, 0, 0, 0, 0, 0),
  (1, .iconst 0, 1, 0, 0, 0, 0, 0),
  (2, .putfield 135, 3, 0, 11, 0, 0, 0),
  (5, .aload_n 0, 1, 0, 0, 0, 0, 0),
  (6, .invokevirtual 412, 3, 0, 60, 17, 0, 0),
  (9, .ifCond .ne 5, 3, 0, 2, 0, 0, 0),
  (12, .iconst (-1), 1, 0, 0, 0, -1, 0),
  (13, .ireturn, 1, 0, 0, 0, 0, 0),
  (14, .aload_n 0, 1, 0, 0, 0, 0, 0),
  (15, .invokevirtual 406, 3, 0, 54, 1, 0, 0),
  (18, .aload_n 0, 1, 0, 0, 0, 0, 0),
  (19, .getfield 105, 3, 0, 11, 45, 0, 0),
  (22, .iconst 0, 1, 0, 0, 0, 0, 0),
  (23, .aload_n 0, 1, 0, 0, 0, 0, 0),
  (24, .getfield 105, 3, 0, 11, 45, 0, 0),
  (27, .iconst 0, 1, 0, 0, 0, 0, 0),
  (28, .iaload, 1, 0, 30, 0, 0, 0),
  (29, .iconst 1, 1, 0, 0, 0, 1, 0),
  (30, .iadd, 1, 0, 0, 0, 0, 0),
  (31, .aload_n 0, 1, 0, 0, 0, 0, 0),
  (32, .getfield 13, 3, 0, 11, 10, 0, 0),
  (35, .iconst 0, 1, 0, 0, 0, 0, 0),
  (36, .iaload, 1, 0, 30, 0, 0, 0),
  (37, .irem, 1, 0, 0, 0, 0, 0),
  (38, .iastore, 1, 0, 30, 0, 0, 0),
  (39, .aload_n 0, 1, 0, 0, 0, 0, 0),
  (40, .getfield 105, 3, 0, 11, 45, 0, 0),
  (43, .iconst 0, 1, 0, 0, 0, 0, 0),
  (44, .iaload, 1, 0, 30, 0, 0, 0),
  (45, .ireturn, 1, 0, 0, 0, 0, 0)]
def lM62 (q : Nat) : Nat := 0
def kM63 : List aE := [(0, .aload_n 0, 1, 0, 0, 0, 0, 0),
  (1, .iconst 0, 1, 0, 0, 0, 0, 0),
  (2, .putfield 135, 3, 0, 11, 0, 0, 0),
  (5, .iload_n 1, 1, 0, 0, 0, 0, 0),
  (6, .ifCond .lt 13, 3, 0, 6, 0, 0, 0),
  (9, .iload_n 1, 1, 0, 0, 0, 0, 0),
  (10, .aload_n 0, 1, 0, 0, 0, 0, 0),
  (11, .getfield 105, 3, 0, 11, 45, 0, 0),
  (14, .iconst 3, 1, 0, 0, 0, 3, 0),
  (15, .iaload, 1, 0, 30, 0, 0, 0),
  (16, .if_icmp .lt 5, 3, 0, 2, 0, 0, 0),
  (19, .iconst (-1), 1, 0, 0, 0, -1, 0),
  (20, .ireturn, 1, 0, 0, 0, 0, 0),
  (21, .aload_n 0, 1, 0, 0, 0, 0, 0),
  (22, .invokevirtual 406, 3, 0, 54, 1, 0, 0),
  (25, .aload_n 0, 1, 0, 0, 0, 0, 0),
  (26, .iload_n 1, 1, 0, 0, 0, 0, 0),
  (27, .invokevirtual 415, 3, 0, 59, 2, 0, 0),
  (30, .aload_n 0, 1, 0, 0, 0, 0, 0),
  (31, .getfield 105, 3, 0, 11, 45, 0, 0),
  (34, .iconst 3, 1, 0, 0, 0, 3, 0),
  (35, .iaload, 1, 0, 30, 0, 0, 0),
  (36, .ireturn, 1, 0, 0, 0, 0, 0)]
def lM63 (q : Nat) : Nat := 0
def kM64 : List aE := [(0, .aload_n 0, 1, 0, 0, 0, 0, 0),
  (1, .iconst 0, 1, 0, 0, 0, 0, 0),
  (2, .putfield 135, 3, 0, 11, 0, 0, 0),
  (5, .aload_n 0, 1, 0, 0, 0, 0, 0),
  (6, .getfield 343, 3, 0, 11, 50, 0, 0),
  (9, .ifCond .ne 5, 3, 0, 2, 0, 0, 0),
  (12, .iconst 0, 1, 0, 0, 0, 0, 0),
  (13, .ireturn, 1, 0, 1, 0, 0, 0),
  (14, .aload_n 0, 1, 0, 0, 0, 0, 0),
  (15, .dup, 1, 0, 0, 0, 0, 0),
  (16, .getfield 343, 3, 0, 11, 50, 0, 0),
  (19, .iconst 1, 1, 0, 0, 0, 1, 0),
  (20, .isub, 1, 0, 0, 0, 0, 0),
  (21, .putfield 343, 3, 0, 11, 50, 0, 0),
  (24, .aload_n 0, 1, 0, 0, 0, 0, 0),
  (25, .getfield 114, 3, 0, 11, 48, 0, 0),
  (28, .bipush 60, 2, 0, 0, 0, 60, 0),
  (30, .aload_n 0, 1, 0, 0, 0, 0, 0),
  (31, .getfield 343, 3, 0, 11, 50, 0, 0),
  (34, .imul, 1, 0, 0, 0, 0, 0),
  (35, .aload_n 0, 1, 0, 0, 0, 0, 0),
  (36, .getfield 105, 3, 0, 11, 45, 0, 0),
  (39, .iconst 0, 1, 0, 0, 0, 0, 0),
  (40, .invokestatic 384, 3, 0, 35, 4, 0, 0),
  (43, .iconst 1, 1, 0, 0, 0, 1, 0),
  (44, .ireturn, 1, 0, 1, 0, 0, 0)]
def lM64 (q : Nat) : Nat := 0
def kM65 : List aE := [(0, .iconst 0, 1, 0, 0, 0, 0, 0),
  (1, .istore_n 2, 1, 0, 0, 0, 0, 0),
  (2, .iconst 0, 1, 0, 0, 0, 0, 0),
  (3, .istore_n 3, 1, 0, 0, 0, 0, 0),
  (4, .iload_n 3, 1, 5, 0, 0, 0, 0),
  (5, .aload_n 0, 1, 0, 0, 0, 0, 0),
  (6, .getfield 13, 3, 0, 11, 10, 0, 0),
  (9, .iconst 2, 1, 0, 0, 0, 2, 0),
  (10, .iaload, 1, 0, 30, 0, 0, 0),
  (11, .if_icmp .ge 27, 3, 0, 17, 0, 0, 0),
  (14, .iload_n 2, 1, 0, 0, 0, 0, 0),
  (15, .iconst 1, 1, 0, 0, 0, 1, 0),
  (16, .aload_n 0, 1, 0, 0, 0, 0, 0),
  (17, .getfield 105, 3, 0, 11, 45, 0, 0),
  (20, .bipush 20, 2, 0, 0, 0, 20, 0),
  (22, .iconst 4, 1, 0, 0, 0, 4, 0),
  (23, .iload_n 1, 1, 0, 0, 0, 0, 0),
  (24, .imul, 1, 0, 0, 0, 0, 0),
  (25, .iadd, 1, 0, 0, 0, 0, 0),
  (26, .iload_n 3, 1, 0, 0, 0, 0, 0),
  (27, .iadd, 1, 0, 0, 0, 0, 0),
  (28, .iaload, 1, 0, 30, 0, 0, 0),
  (29, .ishl, 1, 0, 0, 0, 0, 0),
  (30, .ior, 1, 0, 0, 0, 0, 0),
  (31, .istore_n 2, 1, 0, 0, 0, 0, 0),
  (32, .iinc 3 1, 3, 0, 0, 0, 1, 0),
  (35, .goto (-31), 3, 0, 4, 1, 0, 0),
  (38, .iload_n 2, 1, 0, 0, 0, 0, 0),
  (39, .ireturn, 1, 0, 0, 0, 0, 0)]
def lM65 (q : Nat) : Nat := 15
def kM66 : List aE := [(0, .aload_n 0, 1, 0, 0, 0, 0, 0),
  (1, .iload_n 1, 1, 0, 0, 0, 0, 0),
  (2, .invokevirtual 418, 3, 0, 65, 18, 0, 0),
  (5, .istore_n 3, 1, 0, 0, 0, 0, 0),
  (6, .aload_n 0, 1, 0, 0, 0, 0, 0),
  (7, .iload_n 2, 1, 0, 0, 0, 0, 0),
  (8, .invokevirtual 418, 3, 0, 65, 18, 0, 0),
  (11, .istore 4, 2, 0, 0, 0, 0, 0),
  (13, .iconst 0, 1, 0, 0, 0, 0, 0),
  (14, .istore 5, 2, 0, 0, 0, 0, 0),
  (16, .iload 5, 2, 11, 0, 0, 0, 0),
  (18, .aload_n 0, 1, 0, 0, 0, 0, 0),
  (19, .getfield 13, 3, 0, 11, 10, 0, 0),
  (22, .iconst 1, 1, 0, 0, 0, 1, 0),
  (23, .iaload, 1, 0, 30, 0, 0, 0),
  (24, .if_icmp .ge 34, 3, 0, 18, 0, 0, 0),
  (27, .iload_n 3, 1, 0, 0, 0, 0, 0),
  (28, .iload 5, 2, 0, 0, 0, 0, 0),
  (30, .ishr, 1, 0, 0, 0, 0, 0),
  (31, .iconst 1, 1, 0, 0, 0, 1, 0),
  (32, .iand, 1, 0, 0, 0, 0, 0),
  (33, .iconst 1, 1, 0, 0, 0, 1, 0),
  (34, .if_icmp .ne 18, 3, 0, 9, 0, 0, 0),
  (37, .aload_n 0, 1, 0, 0, 0, 0, 0),
  (38, .getfield 41, 3, 0, 11, 19, 0, 0),
  (41, .iload 5, 2, 0, 0, 0, 0, 0),
  (43, .iaload, 1, 0, 30, 0, 0, 0),
  (44, .iload 4, 2, 0, 0, 0, 0, 0),
  (46, .iand, 1, 0, 0, 0, 0, 0),
  (47, .ifCond .eq 5, 3, 0, 2, 0, 0, 0),
  (50, .iconst 1, 1, 0, 0, 0, 1, 0),
  (51, .ireturn, 1, 0, 1, 0, 0, 0),
  (52, .iinc 5 1, 3, 0, 0, 0, 1, 0),
  (55, .goto (-39), 3, 0, 10, 1, 0, 0),
  (58, .iconst 0, 1, 0, 0, 0, 0, 0),
  (59, .ireturn, 1, 0, 1, 0, 0, 0)]
def lM66 (q : Nat) : Nat := 57
def kM67 : List aE := [(0, .iconst 0, 1, 0, 0, 0, 0, 0),
  (1, .istore_n 2, 1, 0, 0, 0, 0, 0),
  (2, .iconst 0, 1, 0, 0, 0, 0, 0),
  (3, .istore_n 3, 1, 0, 0, 0, 0, 0),
  (4, .iload_n 3, 1, 5, 0, 0, 0, 0),
  (5, .aload_n 0, 1, 0, 0, 0, 0, 0),
  (6, .getfield 105, 3, 0, 11, 45, 0, 0),
  (9, .iconst 3, 1, 0, 0, 0, 3, 0),
  (10, .iaload, 1, 0, 30, 0, 0, 0),
  (11, .if_icmp .ge 61, 3, 0, 34, 0, 0, 0),
  (14, .iconst 0, 1, 0, 0, 0, 0, 0),
  (15, .istore 4, 2, 0, 0, 0, 0, 0),
  (17, .iload 4, 2, 13, 0, 0, 0, 0),
  (19, .iload_n 3, 1, 0, 0, 0, 0, 0),
  (20, .if_icmp .gt 46, 3, 0, 27, 0, 0, 0),
  (23, .iload_n 2, 1, 0, 0, 0, 0, 0),
  (24, .iload_n 1, 1, 0, 0, 0, 0, 0),
  (25, .iload_n 3, 1, 0, 0, 0, 0, 0),
  (26, .ishr, 1, 0, 0, 0, 0, 0),
  (27, .iconst 1, 1, 0, 0, 0, 1, 0),
  (28, .iand, 1, 0, 0, 0, 0, 0),
  (29, .iconst 1, 1, 0, 0, 0, 1, 0),
  (30, .if_icmp .ne 27, 3, 0, 14, 0, 0, 0),
  (33, .iload_n 1, 1, 0, 0, 0, 0, 0),
  (34, .iload 4, 2, 0, 0, 0, 0, 0),
  (36, .ishr, 1, 0, 0, 0, 0, 0),
  (37, .iconst 1, 1, 0, 0, 0, 1, 0),
  (38, .iand, 1, 0, 0, 0, 0, 0),
  (39, .iconst 1, 1, 0, 0, 0, 1, 0),
  (40, .if_icmp .ne 17, 3, 0, 7, 0, 0, 0),
  (43, .aload_n 0, 1, 0, 0, 0, 0, 0),
  (44, .iload_n 3, 1, 0, 0, 0, 0, 0),
  (45, .iload 4, 2, 0, 0, 0, 0, 0),
  (47, .invokevirtual 421, 3, 0, 66, 19, 0, 0),
  (50, .ifCond .eq 7, 3, 0, 2, 0, 0, 0),
  (53, .iconst 1, 1, 0, 0, 0, 1, 0),
  (54, .goto 4, 3, 0, 1, 0, 0, 0),
  (57, .iconst 0, 1, 0, 0, 0, 0, 0),
  (58, .iadd, 1, 0, 0, 0, 0, 0),
  (59, .istore_n 2, 1, 0, 0, 0, 0, 0),
  (60, .iinc 4 1, 3, 0, 0, 0, 1, 0),
  (63, .goto (-46), 3, 0, 12, 1, 0, 0),
  (66, .iinc 3 1, 3, 0, 0, 0, 1, 0),
  (69, .goto (-65), 3, 0, 4, 1, 0, 0),
  (72, .iload_n 2, 1, 0, 0, 0, 0, 0),
  (73, .ireturn, 1, 0, 0, 0, 0, 0)]
def lM67 (q : Nat) : Nat := cond (Nat.ble q 4) (15) (31)
def kM68 : List aE := [(0, .iconst 1, 1, 0, 0, 0, 1, 0),
  (1, .aload_n 0, 1, 0, 0, 0, 0, 0),
  (2, .getfield 105, 3, 0, 11, 45, 0, 0),
  (5, .iconst 3, 1, 0, 0, 0, 3, 0),
  (6, .iaload, 1, 0, 30, 0, 0, 0),
  (7, .ishl, 1, 0, 0, 0, 0, 0),
  (8, .iconst 1, 1, 0, 0, 0, 1, 0),
  (9, .isub, 1, 0, 0, 0, 0, 0),
  (10, .ireturn, 1, 0, 0, 0, 0, 0)]
def lM68 (q : Nat) : Nat := 0
def kM69 : List aE := [(0, .aload_n 0, 1, 0, 0, 0, 0, 0),
  (1, .getfield 96, 3, 0, 11, 42, 0, 0),
  (4, .iload_n 1, 1, 0, 0, 0, 0, 0),
  (5, .iaload, 1, 0, 30, 0, 0, 0),
  (6, .istore_n 2, 1, 0, 0, 0, 0, 0),
  (7, .aload_n 0, 1, 0, 0, 0, 0, 0),
  (8, .getfield 93, 3, 0, 11, 41, 0, 0),
  (11, .iload_n 1, 1, 0, 0, 0, 0, 0),
  (12, .iaload, 1, 0, 30, 0, 0, 0),
  (13, .ifCond .ne 21, 3, 0, 10, 0, 0, 0),
  (16, .aload_n 0, 1, 0, 0, 0, 0, 0),
  (17, .iload_n 2, 1, 0, 0, 0, 0, 0),
  (18, .invokevirtual 403, 3, 0, 55, 18, 0, 0),
  (21, .ifCond .ne 5, 3, 0, 2, 0, 0, 0),
  (24, .iconst 0, 1, 0, 0, 0, 0, 0),
  (25, .ireturn, 1, 0, 1, 0, 0, 0),
  (26, .aload_n 0, 1, 0, 0, 0, 0, 0),
  (27, .iload_n 2, 1, 0, 0, 0, 0, 0),
  (28, .invokevirtual 409, 3, 0, 58, 2, 0, 0),
  (31, .goto 63, 3, 0, 38, 0, 0, 0),
  (34, .aload_n 0, 1, 0, 0, 0, 0, 0),
  (35, .getfield 93, 3, 0, 11, 41, 0, 0),
  (38, .iload_n 1, 1, 0, 0, 0, 0, 0),
  (39, .iaload, 1, 0, 30, 0, 0, 0),
  (40, .iconst 1, 1, 0, 0, 0, 1, 0),
  (41, .if_icmp .ne 23, 3, 0, 12, 0, 0, 0),
  (44, .iload_n 2, 1, 0, 0, 0, 0, 0),
  (45, .aload_n 0, 1, 0, 0, 0, 0, 0),
  (46, .getfield 105, 3, 0, 11, 45, 0, 0),
  (49, .iconst 3, 1, 0, 0, 0, 3, 0),
  (50, .iaload, 1, 0, 30, 0, 0, 0),
  (51, .if_icmp .lt 5, 3, 0, 2, 0, 0, 0),
  (54, .iconst 0, 1, 0, 0, 0, 0, 0),
  (55, .ireturn, 1, 0, 1, 0, 0, 0),
  (56, .aload_n 0, 1, 0, 0, 0, 0, 0),
  (57, .iload_n 2, 1, 0, 0, 0, 0, 0),
  (58, .invokevirtual 415, 3, 0, 59, 2, 0, 0),
  (61, .goto 33, 3, 0, 20, 0, 0, 0),
  (64, .aload_n 0, 1, 0, 0, 0, 0, 0),
  (65, .invokevirtual 412, 3, 0, 60, 17, 0, 0),
  (68, .ifCond .ne 5, 3, 0, 2, 0, 0, 0),
  (71, .iconst 0, 1, 0, 0, 0, 0, 0),
  (72, .ireturn, 1, 0, 1, 0, 0, 0),
  (73, .aload_n 0, 1, 0, 0, 0, 0, 0),
  (74, .getfield 105, 3, 0, 11, 45, 0, 0),
  (77, .iconst 0, 1, 0, 0, 0, 0, 0),
  (78, .aload_n 0, 1, 0, 0, 0, 0, 0),
  (79, .getfield 105, 3, 0, 11, 45, 0, 0),
  (82, .iconst 0, 1, 0, 0, 0, 0, 0),
  (83, .iaload, 1, 0, 30, 0, 0, 0),
  (84, .iconst 1, 1, 0, 0, 0, 1, 0),
  (85, .iadd, 1, 0, 0, 0, 0, 0),
  (86, .aload_n 0, 1, 0, 0, 0, 0, 0),
  (87, .getfield 13, 3, 0, 11, 10, 0, 0),
  (90, .iconst 0, 1, 0, 0, 0, 0, 0),
  (91, .iaload, 1, 0, 30, 0, 0, 0),
  (92, .irem, 1, 0, 0, 0, 0, 0),
  (93, .iastore, 1, 0, 30, 0, 0, 0),
  (94, .iconst 1, 1, 0, 0, 0, 1, 0),
  (95, .ireturn, 1, 0, 1, 0, 0, 0)]
def lM69 (q : Nat) : Nat := 0
def kM70 : List aE := [(0, .iconst 0, 1, 0, 0, 0, 0, 0),
  (1, .istore_n 1, 1, 0, 0, 0, 0, 0),
  (2, .iload_n 1, 1, 3, 0, 0, 0, 0),
  (3, .aload_n 0, 1, 0, 0, 0, 0, 0),
  (4, .getfield 105, 3, 0, 11, 45, 0, 0),
  (7, .iconst 3, 1, 0, 0, 0, 3, 0),
  (8, .iaload, 1, 0, 30, 0, 0, 0),
  (9, .if_icmp .ge 27, 3, 0, 14, 0, 0, 0),
  (12, .aload_n 0, 1, 0, 0, 0, 0, 0),
  (13, .iload_n 1, 1, 0, 0, 0, 0, 0),
  (14, .aload_n 0, 1, 0, 0, 0, 0, 0),
  (15, .getfield 105, 3, 0, 11, 45, 0, 0),
  (18, .iconst 3, 1, 0, 0, 0, 3, 0),
  (19, .iaload, 1, 0, 30, 0, 0, 0),
  (20, .iconst 1, 1, 0, 0, 0, 1, 0),
  (21, .isub, 1, 0, 0, 0, 0, 0),
  (22, .invokevirtual 421, 3, 0, 66, 19, 0, 0),
  (25, .ifCond .eq 5, 3, 0, 2, 0, 0, 0),
  (28, .iconst 1, 1, 0, 0, 0, 1, 0),
  (29, .ireturn, 1, 0, 1, 0, 0, 0),
  (30, .iinc 1 1, 3, 0, 0, 0, 1, 0),
  (33, .goto (-31), 3, 0, 2, 1, 0, 0),
  (36, .iconst 0, 1, 0, 0, 0, 0, 0),
  (37, .ireturn, 1, 0, 1, 0, 0, 0)]
def lM70 (q : Nat) : Nat := 3
def kM71 : List aE := [(0, .aload_n 0, 1, 0, 0, 0, 0, 0),
  (1, .iconst 0, 1, 0, 0, 0, 0, 0),
  (2, .putfield 135, 3, 0, 11, 0, 0, 0),
  (5, .iload_n 1, 1, 0, 0, 0, 0, 0),
  (6, .iconst 0, 1, 0, 0, 0, 0, 0),
  (7, .iconst 2, 1, 0, 0, 0, 2, 0),
  (8, .invokestatic 269, 3, 0, 1, 19, 0, 0),
  (11, .ifCond .ne 6, 3, 0, 2, 0, 0, 0),
  (14, .bipush (-2), 2, 0, 0, 0, -2, 0),
  (16, .ireturn, 1, 0, 0, 0, 0, 0),
  (17, .aload_n 0, 1, 0, 0, 0, 0, 0),
  (18, .getfield 105, 3, 0, 11, 45, 0, 0),
  (21, .iconst 0, 1, 0, 0, 0, 0, 0),
  (22, .aload_n 0, 1, 0, 0, 0, 0, 0),
  (23, .getfield 108, 3, 0, 11, 46, 0, 0),
  (26, .iconst 0, 1, 0, 0, 0, 0, 0),
  (27, .invokestatic 384, 3, 0, 35, 4, 0, 0),
  (30, .aload_n 0, 1, 0, 0, 0, 0, 0),
  (31, .invokevirtual 132, 3, 0, 39, 1, 0, 0),
  (34, .iconst (-1), 1, 0, 0, 0, -1, 0),
  (35, .istore_n 2, 1, 0, 0, 0, 0, 0),
  (36, .iconst (-1), 1, 0, 0, 0, -1, 0),
  (37, .istore_n 3, 1, 0, 0, 0, 0, 0),
  (38, .iconst 0, 1, 0, 0, 0, 0, 0),
  (39, .istore 4, 2, 0, 0, 0, 0, 0),
  (41, .iload 4, 2, 26, 0, 0, 0, 0),
  (43, .aload_n 0, 1, 0, 0, 0, 0, 0),
  (44, .getfield 90, 3, 0, 11, 40, 0, 0),
  (47, .iconst 0, 1, 0, 0, 0, 0, 0),
  (48, .iaload, 1, 0, 30, 0, 0, 0),
  (49, .if_icmp .ge 67, 3, 0, 31, 0, 0, 0),
  (52, .aload_n 0, 1, 0, 0, 0, 0, 0),
  (53, .iload 4, 2, 0, 0, 0, 0, 0),
  (55, .invokevirtual 424, 3, 0, 69, 18, 0, 0),
  (58, .istore 5, 2, 0, 0, 0, 0, 0),
  (60, .iload 5, 2, 0, 0, 0, 0, 0),
  (62, .ifCond .ne 10, 3, 0, 41, 1, 0, 0),
  (65, .iload_n 2, 1, 0, 0, 0, 0, 0),
  (66, .ifCond .ge 6, 3, 0, 41, 1, 0, 0),
  (69, .iload 4, 2, 0, 0, 0, 0, 0),
  (71, .istore_n 2, 1, 0, 0, 0, 0, 0),
  (72, .iload 5, 2, 42, 0, 0, 0, 0),
  (74, .ifCond .eq 36, 3, 0, 17, 0, 0, 0),
  (77, .aload_n 0, 1, 0, 0, 0, 0, 0),
  (78, .getfield 93, 3, 0, 11, 41, 0, 0),
  (81, .iload 4, 2, 0, 0, 0, 0, 0),
  (83, .iaload, 1, 0, 30, 0, 0, 0),
  (84, .ifCond .ne 26, 3, 0, 12, 0, 0, 0),
  (87, .aload_n 0, 1, 0, 0, 0, 0, 0),
  (88, .getfield 105, 3, 0, 11, 45, 0, 0),
  (91, .iconst 1, 1, 0, 0, 0, 1, 0),
  (92, .iaload, 1, 0, 30, 0, 0, 0),
  (93, .ifCond .ne 17, 3, 0, 7, 0, 0, 0),
  (96, .iload_n 3, 1, 0, 0, 0, 0, 0),
  (97, .ifCond .ge 13, 3, 0, 5, 0, 0, 0),
  (100, .aload_n 0, 1, 0, 0, 0, 0, 0),
  (101, .invokevirtual 427, 3, 0, 70, 17, 0, 0),
  (104, .ifCond .eq 6, 3, 0, 2, 0, 0, 0),
  (107, .iload 4, 2, 0, 0, 0, 0, 0),
  (109, .istore_n 3, 1, 0, 0, 0, 0, 0),
  (110, .iinc 4 1, 3, 0, 0, 0, 1, 0),
  (113, .goto (-72), 3, 0, 25, 1, 0, 0),
  (116, .aload_n 0, 1, 0, 0, 0, 0, 0),
  (117, .getfield 105, 3, 0, 11, 45, 0, 0),
  (120, .iconst 2, 1, 0, 0, 0, 2, 0),
  (121, .iaload, 1, 0, 30, 0, 0, 0),
  (122, .istore 4, 2, 0, 0, 0, 0, 0),
  (124, .aload_n 0, 1, 0, 0, 0, 0, 0),
  (125, .getfield 108, 3, 0, 11, 46, 0, 0),
  (128, .iconst 0, 1, 0, 0, 0, 0, 0),
  (129, .aload_n 0, 1, 0, 0, 0, 0, 0),
  (130, .getfield 105, 3, 0, 11, 45, 0, 0),
  (133, .iconst 0, 1, 0, 0, 0, 0, 0),
  (134, .invokestatic 384, 3, 0, 35, 4, 0, 0),
  (137, .iload_n 1, 1, 0, 0, 0, 0, 0),
  (138, .ifCond .ne 7, 3, 0, 2, 0, 0, 0),
  (141, .iload_n 2, 1, 0, 0, 0, 0, 0),
  (142, .goto 14, 3, 0, 6, 0, 0, 0),
  (145, .iload_n 1, 1, 0, 0, 0, 0, 0),
  (146, .iconst 1, 1, 0, 0, 0, 1, 0),
  (147, .if_icmp .ne 7, 3, 0, 2, 0, 0, 0),
  (150, .iload_n 3, 1, 0, 0, 0, 0, 0),
  (151, .goto 5, 3, 0, 1, 0, 0, 0),
  (154, .iload 4, 2, 0, 0, 0, 0, 0),
  (156, .ireturn, 1, 0, 0, 0, 0, 0)]
def lM71 (q : Nat) : Nat := cond (Nat.ble q 25) (31) (63)
def kM72 : List aE := [(0, .aload_n 0, 1, 0, 0, 0, 0, 0),
  (1, .aload_n 0, 1, 0, 0, 0, 0, 0),
  (2, .getfield 105, 3, 0, 11, 45, 0, 0),
  (5, .iconst 0, 1, 0, 0, 0, 0, 0),
  (6, .iaload, 1, 0, 30, 0, 0, 0),
  (7, .iload_n 1, 1, 0, 0, 0, 0, 0),
  (8, .invokevirtual 366, 3, 0, 44, 19, 0, 0),
  (11, .istore 4, 2, 0, 0, 0, 0, 0),
  (13, .aload_n 0, 1, 0, 0, 0, 0, 0),
  (14, .dup, 1, 0, 0, 0, 0, 0),
  (15, .getfield 430, 3, 0, 11, 52, 0, 0),
  (18, .aload_n 0, 1, 0, 0, 0, 0, 0),
  (19, .iload_n 2, 1, 0, 0, 0, 0, 0),
  (20, .iload 4, 2, 0, 0, 0, 0, 0),
  (22, .iload_n 3, 1, 0, 0, 0, 0, 0),
  (23, .invokevirtual 372, 3, 0, 45, 20, 0, 0),
  (26, .i2l, 1, 0, 0, 0, 0, 0),
  (27, .lmul, 1, 0, 0, 0, 0, 0),
  (28, .putfield 430, 3, 0, 11, 52, 0, 0),
  (31, .aload_n 0, 1, 0, 0, 0, 0, 0),
  (32, .dup, 1, 0, 0, 0, 0, 0),
  (33, .getfield 433, 3, 0, 11, 53, 0, 0),
  (36, .iconst 1, 1, 0, 0, 0, 1, 0),
  (37, .aload_n 0, 1, 0, 0, 0, 0, 0),
  (38, .iload_n 1, 1, 0, 0, 0, 0, 0),
  (39, .iload 4, 2, 0, 0, 0, 0, 0),
  (41, .iload_n 3, 1, 0, 0, 0, 0, 0),
  (42, .invokevirtual 436, 3, 0, 48, 20, 0, 0),
  (45, .invokestatic 360, 3, 0, 5000, 18, 0, 0),
  (48, .i2l, 1, 0, 0, 0, 0, 0),
  (49, .lmul, 1, 0, 0, 0, 0, 0),
  (50, .putfield 433, 3, 0, 11, 53, 0, 0),
  (53, .aload_n 0, 1, 0, 0, 0, 0, 0),
  (54, .getfield 430, 3, 0, 11, 52, 0, 0),
  (57, .lconst 0, 1, 0, 0, 0, 0, 0),
  (58, .lcmp, 1, 0, 0, 0, 0, 0),
  (59, .ifCond .le 7, 3, 0, 2, 0, 0, 0),
  (62, .iconst 1, 1, 0, 0, 0, 1, 0),
  (63, .goto 4, 3, 0, 1, 0, 0, 0),
  (66, .iconst 0, 1, 0, 0, 0, 0, 0),
  (67, .ireturn, 1, 0, 1, 0, 0, 0)]
def lM72 (q : Nat) : Nat := 0
def kM73 : List aE := [(0, .iconst (-1), 1, 0, 0, 0, -1, 0),
  (1, .istore_n 3, 1, 0, 0, 0, 0, 0),
  (2, .iconst 0, 1, 0, 0, 0, 0, 0),
  (3, .istore 4, 2, 0, 0, 0, 0, 0),
  (5, .iload 4, 2, 5, 0, 0, 0, 0),
  (7, .aload_n 0, 1, 0, 0, 0, 0, 0),
  (8, .getfield 13, 3, 0, 11, 10, 0, 0),
  (11, .iconst 1, 1, 0, 0, 0, 1, 0),
  (12, .iaload, 1, 0, 30, 0, 0, 0),
  (13, .if_icmp .ge 41, 3, 0, 21, 0, 0, 0),
  (16, .iload_n 1, 1, 0, 0, 0, 0, 0),
  (17, .iload 4, 2, 0, 0, 0, 0, 0),
  (19, .ishr, 1, 0, 0, 0, 0, 0),
  (20, .iconst 1, 1, 0, 0, 0, 1, 0),
  (21, .iand, 1, 0, 0, 0, 0, 0),
  (22, .ifCond .eq 26, 3, 0, 13, 0, 0, 0),
  (25, .aload_n 0, 1, 0, 0, 0, 0, 0),
  (26, .getfield 26, 3, 0, 11, 14, 0, 0),
  (29, .iload 4, 2, 0, 0, 0, 0, 0),
  (31, .iaload, 1, 0, 30, 0, 0, 0),
  (32, .iload_n 2, 1, 0, 0, 0, 0, 0),
  (33, .if_icmp .eq 6, 3, 0, 1, 0, 0, 0),
  (36, .goto 12, 3, 0, 6, 0, 0, 0),
  (39, .iload_n 3, 1, 0, 0, 0, 0, 0),
  (40, .ifCond .lt 5, 3, 0, 2, 0, 0, 0),
  (43, .iconst (-1), 1, 0, 0, 0, -1, 0),
  (44, .ireturn, 1, 0, 0, 0, 0, 0),
  (45, .iload 4, 2, 0, 0, 0, 0, 0),
  (47, .istore_n 3, 1, 0, 0, 0, 0, 0),
  (48, .iinc 4 1, 3, 0, 0, 0, 1, 0),
  (51, .goto (-46), 3, 0, 4, 1, 0, 0),
  (54, .iload_n 3, 1, 0, 0, 0, 0, 0),
  (55, .ireturn, 1, 0, 0, 0, 0, 0)]
def lM73 (q : Nat) : Nat := 31
def kM74 : List aE := [(0, .aload_n 0, 1, 0, 0, 0, 0, 0),
  (1, .iconst 0, 1, 0, 0, 0, 0, 0),
  (2, .putfield 135, 3, 0, 11, 0, 0, 0),
  (5, .iload_n 1, 1, 0, 0, 0, 0, 0),
  (6, .ifCond .lt 35, 3, 0, 20, 0, 0, 0),
  (9, .iload_n 1, 1, 0, 0, 0, 0, 0),
  (10, .iconst 1, 1, 0, 0, 0, 1, 0),
  (11, .aload_n 0, 1, 0, 0, 0, 0, 0),
  (12, .getfield 13, 3, 0, 11, 10, 0, 0),
  (15, .iconst 1, 1, 0, 0, 0, 1, 0),
  (16, .iaload, 1, 0, 30, 0, 0, 0),
  (17, .ishl, 1, 0, 0, 0, 0, 0),
  (18, .if_icmp .ge 23, 3, 0, 12, 0, 0, 0),
  (21, .iload_n 1, 1, 0, 0, 0, 0, 0),
  (22, .invokestatic 439, 3, 0, 3, 17, 0, 0),
  (25, .aload_n 0, 1, 0, 0, 0, 0, 0),
  (26, .getfield 13, 3, 0, 11, 10, 0, 0),
  (29, .iconst 2, 1, 0, 0, 0, 2, 0),
  (30, .iaload, 1, 0, 30, 0, 0, 0),
  (31, .aload_n 0, 1, 0, 0, 0, 0, 0),
  (32, .getfield 105, 3, 0, 11, 45, 0, 0),
  (35, .iconst 1, 1, 0, 0, 0, 1, 0),
  (36, .iaload, 1, 0, 30, 0, 0, 0),
  (37, .isub, 1, 0, 0, 0, 0, 0),
  (38, .if_icmp .eq 5, 3, 0, 2, 0, 0, 0),
  (41, .iconst (-1), 1, 0, 0, 0, -1, 0),
  (42, .ireturn, 1, 0, 0, 0, 0, 0),
  (43, .aload_n 0, 1, 0, 0, 0, 0, 0),
  (44, .lconst 1, 1, 0, 0, 0, 0, 1),
  (45, .putfield 430, 3, 0, 11, 52, 0, 0),
  (48, .aload_n 0, 1, 0, 0, 0, 0, 0),
  (49, .lconst 1, 1, 0, 0, 0, 0, 1),
  (50, .putfield 433, 3, 0, 11, 53, 0, 0),
  (53, .aload_n 0, 1, 0, 0, 0, 0, 0),
  (54, .aload_n 0, 1, 0, 0, 0, 0, 0),
  (55, .getfield 105, 3, 0, 11, 45, 0, 0),
  (58, .iconst 1, 1, 0, 0, 0, 1, 0),
  (59, .iaload, 1, 0, 30, 0, 0, 0),
  (60, .invokevirtual 369, 3, 0, 46, 18, 0, 0),
  (63, .istore_n 2, 1, 0, 0, 0, 0, 0),
  (64, .aload_n 0, 1, 0, 0, 0, 0, 0),
  (65, .getfield 105, 3, 0, 11, 45, 0, 0),
  (68, .iconst 1, 1, 0, 0, 0, 1, 0),
  (69, .iaload, 1, 0, 30, 0, 0, 0),
  (70, .istore_n 3, 1, 0, 0, 0, 0, 0),
  (71, .iload_n 3, 1, 46, 0, 0, 0, 0),
  (72, .aload_n 0, 1, 0, 0, 0, 0, 0),
  (73, .getfield 13, 3, 0, 11, 10, 0, 0),
  (76, .iconst 2, 1, 0, 0, 0, 2, 0),
  (77, .iaload, 1, 0, 30, 0, 0, 0),
  (78, .if_icmp .ge 20, 3, 0, 9, 0, 0, 0),
  (81, .aload_n 0, 1, 0, 0, 0, 0, 0),
  (82, .iload_n 1, 1, 0, 0, 0, 0, 0),
  (83, .iload_n 3, 1, 0, 0, 0, 0, 0),
  (84, .invokevirtual 442, 3, 0, 73, 19, 0, 0),
  (87, .ifCond .ge 5, 3, 0, 2, 0, 0, 0),
  (90, .iconst (-1), 1, 0, 0, 0, -1, 0),
  (91, .ireturn, 1, 0, 0, 0, 0, 0),
  (92, .iinc 3 1, 3, 0, 0, 0, 1, 0),
  (95, .goto (-24), 3, 0, 45, 1, 0, 0),
  (98, .aload_n 0, 1, 0, 0, 0, 0, 0),
  (99, .getfield 105, 3, 0, 11, 45, 0, 0),
  (102, .iconst 1, 1, 0, 0, 0, 1, 0),
  (103, .iaload, 1, 0, 30, 0, 0, 0),
  (104, .istore_n 3, 1, 0, 0, 0, 0, 0),
  (105, .iload_n 3, 1, 66, 0, 0, 0, 0),
  (106, .aload_n 0, 1, 0, 0, 0, 0, 0),
  (107, .getfield 13, 3, 0, 11, 10, 0, 0),
  (110, .iconst 2, 1, 0, 0, 0, 2, 0),
  (111, .iaload, 1, 0, 30, 0, 0, 0),
  (112, .if_icmp .ge 38, 3, 0, 20, 0, 0, 0),
  (115, .aload_n 0, 1, 0, 0, 0, 0, 0),
  (116, .iload_n 1, 1, 0, 0, 0, 0, 0),
  (117, .iload_n 3, 1, 0, 0, 0, 0, 0),
  (118, .invokevirtual 442, 3, 0, 73, 19, 0, 0),
  (121, .istore 4, 2, 0, 0, 0, 0, 0),
  (123, .aload_n 0, 1, 0, 0, 0, 0, 0),
  (124, .iload_n 3, 1, 0, 0, 0, 0, 0),
  (125, .iload 4, 2, 0, 0, 0, 0, 0),
  (127, .iload_n 2, 1, 0, 0, 0, 0, 0),
  (128, .invokevirtual 445, 3, 0, 72, 20, 0, 0),
  (131, .ifCond .ne 5, 3, 0, 2, 0, 0, 0),
  (134, .iconst 0, 1, 0, 0, 0, 0, 0),
  (135, .ireturn, 1, 0, 0, 0, 0, 0),
  (136, .aload_n 0, 1, 0, 0, 0, 0, 0),
  (137, .getfield 32, 3, 0, 11, 16, 0, 0),
  (140, .iload 4, 2, 0, 0, 0, 0, 0),
  (142, .iaload, 1, 0, 30, 0, 0, 0),
  (143, .istore_n 2, 1, 0, 0, 0, 0, 0),
  (144, .iinc 3 1, 3, 0, 0, 0, 1, 0),
  (147, .goto (-42), 3, 0, 65, 1, 0, 0),
  (150, .aload_n 0, 1, 0, 0, 0, 0, 0),
  (151, .getfield 430, 3, 0, 11, 52, 0, 0),
  (154, .ldc2_w 448, 3, 0, 0, 0, 0, 1000000),
  (157, .lmul, 1, 0, 0, 0, 0, 0),
  (158, .aload_n 0, 1, 0, 0, 0, 0, 0),
  (159, .getfield 433, 3, 0, 11, 53, 0, 0),
  (162, .ldiv, 1, 0, 0, 0, 0, 0),
  (163, .l2i, 1, 0, 0, 0, 0, 0),
  (164, .ireturn, 1, 0, 0, 0, 0, 0)]
def lM74 (q : Nat) : Nat := cond (Nat.ble q 45) (15) (15)
def kM75 : List aE := [(0, .aload_n 0, 1, 0, 0, 0, 0, 0),
  (1, .getfield 430, 3, 0, 11, 52, 0, 0),
  (4, .aload_n 0, 1, 0, 0, 0, 0, 0),
  (5, .getfield 450, 3, 0, 11, 57, 0, 0),
  (8, .lmul, 1, 0, 0, 0, 0, 0),
  (9, .aload_n 0, 1, 0, 0, 0, 0, 0),
  (10, .getfield 453, 3, 0, 11, 56, 0, 0),
  (13, .aload_n 0, 1, 0, 0, 0, 0, 0),
  (14, .getfield 433, 3, 0, 11, 53, 0, 0),
  (17, .lmul, 1, 0, 0, 0, 0, 0),
  (18, .lcmp, 1, 0, 0, 0, 0, 0),
  (19, .ifCond .le 44, 3, 0, 35, 1, 0, 0),
  (22, .aload_n 0, 1, 0, 0, 0, 0, 0),
  (23, .aload_n 0, 1, 0, 0, 0, 0, 0),
  (24, .getfield 430, 3, 0, 11, 52, 0, 0),
  (27, .putfield 453, 3, 0, 11, 56, 0, 0),
  (30, .aload_n 0, 1, 0, 0, 0, 0, 0),
  (31, .aload_n 0, 1, 0, 0, 0, 0, 0),
  (32, .getfield 433, 3, 0, 11, 53, 0, 0),
  (35, .putfield 450, 3, 0, 11, 57, 0, 0),
  (38, .iconst 0, 1, 0, 0, 0, 0, 0),
  (39, .istore_n 3, 1, 0, 0, 0, 0, 0),
  (40, .iload_n 3, 1, 23, 0, 0, 0, 0),
  (41, .iconst 4, 1, 0, 0, 0, 4, 0),
  (42, .if_icmp .ge 21, 3, 0, 35, 1, 0, 0),
  (45, .aload_n 0, 1, 0, 0, 0, 0, 0),
  (46, .getfield 123, 3, 0, 11, 55, 0, 0),
  (49, .iload_n 3, 1, 0, 0, 0, 0, 0),
  (50, .aload_n 0, 1, 0, 0, 0, 0, 0),
  (51, .getfield 120, 3, 0, 11, 54, 0, 0),
  (54, .iload_n 3, 1, 0, 0, 0, 0, 0),
  (55, .iaload, 1, 0, 30, 0, 0, 0),
  (56, .iastore, 1, 0, 30, 0, 0, 0),
  (57, .iinc 3 1, 3, 0, 0, 0, 1, 0),
  (60, .goto (-20), 3, 0, 22, 1, 0, 0),
  (63, .aload_n 0, 1, 36, 0, 0, 0, 0),
  (64, .iload_n 1, 1, 0, 0, 0, 0, 0),
  (65, .iload_n 2, 1, 0, 0, 0, 0, 0),
  (66, .invokevirtual 388, 3, 0, 49, 19, 0, 0),
  (69, .istore_n 3, 1, 0, 0, 0, 0, 0),
  (70, .aload_n 0, 1, 0, 0, 0, 0, 0),
  (71, .getfield 456, 3, 0, 11, 58, 0, 0),
  (74, .ifCond .lt 11, 3, 0, 4, 0, 0, 0),
  (77, .iload_n 3, 1, 0, 0, 0, 0, 0),
  (78, .aload_n 0, 1, 0, 0, 0, 0, 0),
  (79, .getfield 456, 3, 0, 11, 58, 0, 0),
  (82, .if_icmp .ge 8, 3, 0, 50, 1, 0, 0),
  (85, .aload_n 0, 1, 0, 0, 0, 0, 0),
  (86, .iload_n 3, 1, 0, 0, 0, 0, 0),
  (87, .putfield 456, 3, 0, 11, 58, 0, 0),
  (90, .aload_n 0, 1, 51, 0, 0, 0, 0),
  (91, .dup, 1, 0, 0, 0, 0, 0),
  (92, .getfield 459, 3, 0, 11, 59, 0, 0),
  (95, .iload_n 3, 1, 0, 0, 0, 0, 0),
  (96, .i2l, 1, 0, 0, 0, 0, 0),
  (97, .aload_n 0, 1, 0, 0, 0, 0, 0),
  (98, .getfield 430, 3, 0, 11, 52, 0, 0),
  (101, .ldc2_w 448, 3, 0, 0, 0, 0, 1000000),
  (104, .lmul, 1, 0, 0, 0, 0, 0),
  (105, .aload_n 0, 1, 0, 0, 0, 0, 0),
  (106, .getfield 433, 3, 0, 11, 53, 0, 0),
  (109, .ldiv, 1, 0, 0, 0, 0, 0),
  (110, .lmul, 1, 0, 0, 0, 0, 0),
  (111, .ladd, 1, 0, 0, 0, 0, 0),
  (112, .putfield 459, 3, 0, 11, 59, 0, 0),
  (115, .return_, 1, 0, 0, 0, 0, 0)]
def lM75 (q : Nat) : Nat := cond (Nat.ble q 22) (15) (cond (Nat.ble q 35) (7) (9))
def kM76 : List aE := [(0, .iload_n 1, 1, 0, 0, 0, 0, 0),
  (1, .aload_n 0, 1, 0, 0, 0, 0, 0),
  (2, .getfield 13, 3, 0, 11, 10, 0, 0),
  (5, .iconst 2, 1, 0, 0, 0, 2, 0),
  (6, .iaload, 1, 0, 30, 0, 0, 0),
  (7, .if_icmp .ne 11, 3, 0, 5, 0, 0, 0),
  (10, .aload_n 0, 1, 0, 0, 0, 0, 0),
  (11, .iload_n 3, 1, 0, 0, 0, 0, 0),
  (12, .iload 4, 2, 0, 0, 0, 0, 0),
  (14, .invokevirtual 462, 3, 0, 75, 3, 0, 0),
  (17, .return_, 1, 0, 0, 0, 0, 0),
  (18, .aload_n 0, 1, 0, 0, 0, 0, 0),
  (19, .getfield 430, 3, 0, 11, 52, 0, 0),
  (22, .lstore 5, 2, 0, 0, 0, 0, 0),
  (24, .aload_n 0, 1, 0, 0, 0, 0, 0),
  (25, .getfield 433, 3, 0, 11, 53, 0, 0),
  (28, .lstore 7, 2, 0, 0, 0, 0, 0),
  (30, .iconst 0, 1, 0, 0, 0, 0, 0),
  (31, .istore 9, 2, 0, 0, 0, 0, 0),
  (33, .iload 9, 2, 20, 0, 0, 0, 0),
  (35, .aload_n 0, 1, 0, 0, 0, 0, 0),
  (36, .getfield 13, 3, 0, 11, 10, 0, 0),
  (39, .iconst 1, 1, 0, 0, 0, 1, 0),
  (40, .iaload, 1, 0, 30, 0, 0, 0),
  (41, .if_icmp .ge 89, 3, 0, 47, 0, 0, 0),
  (44, .aload_n 0, 1, 0, 0, 0, 0, 0),
  (45, .getfield 26, 3, 0, 11, 14, 0, 0),
  (48, .iload 9, 2, 0, 0, 0, 0, 0),
  (50, .iaload, 1, 0, 30, 0, 0, 0),
  (51, .iload_n 1, 1, 0, 0, 0, 0, 0),
  (52, .if_icmp .eq 6, 3, 0, 1, 0, 0, 0),
  (55, .goto 69, 3, 0, 38, 0, 0, 0),
  (58, .aload_n 0, 1, 0, 0, 0, 0, 0),
  (59, .getfield 120, 3, 0, 11, 54, 0, 0),
  (62, .iload_n 1, 1, 0, 0, 0, 0, 0),
  (63, .iload 9, 2, 0, 0, 0, 0, 0),
  (65, .iastore, 1, 0, 30, 0, 0, 0),
  (66, .aload_n 0, 1, 0, 0, 0, 0, 0),
  (67, .iload_n 1, 1, 0, 0, 0, 0, 0),
  (68, .iload 9, 2, 0, 0, 0, 0, 0),
  (70, .iload_n 2, 1, 0, 0, 0, 0, 0),
  (71, .invokevirtual 445, 3, 0, 72, 20, 0, 0),
  (74, .ifCond .eq 38, 3, 0, 21, 0, 0, 0),
  (77, .aload_n 0, 1, 0, 0, 0, 0, 0),
  (78, .iload_n 1, 1, 0, 0, 0, 0, 0),
  (79, .iconst 1, 1, 0, 0, 0, 1, 0),
  (80, .iadd, 1, 0, 0, 0, 0, 0),
  (81, .aload_n 0, 1, 0, 0, 0, 0, 0),
  (82, .getfield 32, 3, 0, 11, 16, 0, 0),
  (85, .iload 9, 2, 0, 0, 0, 0, 0),
  (87, .iaload, 1, 0, 30, 0, 0, 0),
  (88, .iload_n 3, 1, 0, 0, 0, 0, 0),
  (89, .aload_n 0, 1, 0, 0, 0, 0, 0),
  (90, .getfield 32, 3, 0, 11, 16, 0, 0),
  (93, .iload 9, 2, 0, 0, 0, 0, 0),
  (95, .iaload, 1, 0, 30, 0, 0, 0),
  (96, .iadd, 1, 0, 0, 0, 0, 0),
  (97, .iload 4, 2, 0, 0, 0, 0, 0),
  (99, .aload_n 0, 1, 0, 0, 0, 0, 0),
  (100, .getfield 32, 3, 0, 11, 16, 0, 0),
  (103, .iload 9, 2, 0, 0, 0, 0, 0),
  (105, .iaload, 1, 0, 30, 0, 0, 0),
  (106, .invokestatic 360, 3, 0, 5000, 18, 0, 0),
  (109, .invokevirtual 465, 3, 0, 76, 5, 0, 0),
  (112, .aload_n 0, 1, 0, 0, 0, 0, 0),
  (113, .lload 5, 2, 0, 0, 0, 0, 0),
  (115, .putfield 430, 3, 0, 11, 52, 0, 0),
  (118, .aload_n 0, 1, 0, 0, 0, 0, 0),
  (119, .lload 7, 2, 0, 0, 0, 0, 0),
  (121, .putfield 433, 3, 0, 11, 53, 0, 0),
  (124, .iinc 9 1, 3, 0, 0, 0, 1, 0),
  (127, .goto (-94), 3, 0, 19, 1, 0, 0),
  (130, .return_, 1, 0, 0, 0, 0, 0)]
def lM76 (q : Nat) : Nat := 703
def kM77 : List aE := [(0, .aload_n 0, 1, 0, 0, 0, 0, 0),
  (1, .lconst 0, 1, 0, 0, 0, 0, 0),
  (2, .putfield 453, 3, 0, 11, 56, 0, 0),
  (5, .aload_n 0, 1, 0, 0, 0, 0, 0),
  (6, .lconst 1, 1, 0, 0, 0, 0, 1),
  (7, .putfield 450, 3, 0, 11, 57, 0, 0),
  (10, .aload_n 0, 1, 0, 0, 0, 0, 0),
  (11, .iconst (-1), 1, 0, 0, 0, -1, 0),
  (12, .putfield 456, 3, 0, 11, 58, 0, 0),
  (15, .aload_n 0, 1, 0, 0, 0, 0, 0),
  (16, .lconst 0, 1, 0, 0, 0, 0, 0),
  (17, .putfield 459, 3, 0, 11, 59, 0, 0),
  (20, .aload_n 0, 1, 0, 0, 0, 0, 0),
  (21, .lconst 1, 1, 0, 0, 0, 0, 1),
  (22, .putfield 430, 3, 0, 11, 52, 0, 0),
  (25, .aload_n 0, 1, 0, 0, 0, 0, 0),
  (26, .lconst 1, 1, 0, 0, 0, 0, 1),
  (27, .putfield 433, 3, 0, 11, 53, 0, 0),
  (30, .iconst 0, 1, 0, 0, 0, 0, 0),
  (31, .istore_n 1, 1, 0, 0, 0, 0, 0),
  (32, .iconst 0, 1, 0, 0, 0, 0, 0),
  (33, .istore_n 2, 1, 0, 0, 0, 0, 0),
  (34, .iconst 0, 1, 0, 0, 0, 0, 0),
  (35, .istore_n 3, 1, 0, 0, 0, 0, 0),
  (36, .iload_n 3, 1, 25, 0, 0, 0, 0),
  (37, .aload_n 0, 1, 0, 0, 0, 0, 0),
  (38, .getfield 105, 3, 0, 11, 45, 0, 0),
  (41, .iconst 1, 1, 0, 0, 0, 1, 0),
  (42, .iaload, 1, 0, 30, 0, 0, 0),
  (43, .if_icmp .ge 43, 3, 0, 26, 0, 0, 0),
  (46, .iload_n 1, 1, 0, 0, 0, 0, 0),
  (47, .aload_n 0, 1, 0, 0, 0, 0, 0),
  (48, .getfield 32, 3, 0, 11, 16, 0, 0),
  (51, .aload_n 0, 1, 0, 0, 0, 0, 0),
  (52, .getfield 105, 3, 0, 11, 45, 0, 0),
  (55, .iconst 4, 1, 0, 0, 0, 4, 0),
  (56, .iload_n 3, 1, 0, 0, 0, 0, 0),
  (57, .iadd, 1, 0, 0, 0, 0, 0),
  (58, .iaload, 1, 0, 30, 0, 0, 0),
  (59, .iaload, 1, 0, 30, 0, 0, 0),
  (60, .iadd, 1, 0, 0, 0, 0, 0),
  (61, .istore_n 1, 1, 0, 0, 0, 0, 0),
  (62, .iload_n 2, 1, 0, 0, 0, 0, 0),
  (63, .aload_n 0, 1, 0, 0, 0, 0, 0),
  (64, .getfield 32, 3, 0, 11, 16, 0, 0),
  (67, .aload_n 0, 1, 0, 0, 0, 0, 0),
  (68, .getfield 105, 3, 0, 11, 45, 0, 0),
  (71, .iconst 4, 1, 0, 0, 0, 4, 0),
  (72, .iload_n 3, 1, 0, 0, 0, 0, 0),
  (73, .iadd, 1, 0, 0, 0, 0, 0),
  (74, .iaload, 1, 0, 30, 0, 0, 0),
  (75, .iaload, 1, 0, 30, 0, 0, 0),
  (76, .invokestatic 360, 3, 0, 5000, 18, 0, 0),
  (79, .istore_n 2, 1, 0, 0, 0, 0, 0),
  (80, .iinc 3 1, 3, 0, 0, 0, 1, 0),
  (83, .goto (-47), 3, 0, 24, 1, 0, 0),
  (86, .aload_n 0, 1, 0, 0, 0, 0, 0),
  (87, .aload_n 0, 1, 0, 0, 0, 0, 0),
  (88, .getfield 105, 3, 0, 11, 45, 0, 0),
  (91, .iconst 1, 1, 0, 0, 0, 1, 0),
  (92, .iaload, 1, 0, 30, 0, 0, 0),
  (93, .aload_n 0, 1, 0, 0, 0, 0, 0),
  (94, .aload_n 0, 1, 0, 0, 0, 0, 0),
  (95, .getfield 105, 3, 0, 11, 45, 0, 0),
  (98, .iconst 1, 1, 0, 0, 0, 1, 0),
  (99, .iaload, 1, 0, 30, 0, 0, 0),
  (100, .invokevirtual 369, 3, 0, 46, 18, 0, 0),
  (103, .iload_n 1, 1, 0, 0, 0, 0, 0),
  (104, .iload_n 2, 1, 0, 0, 0, 0, 0),
  (105, .invokevirtual 465, 3, 0, 76, 5, 0, 0),
  (108, .return_, 1, 0, 0, 0, 0, 0)]
def lM77 (q : Nat) : Nat := 15
def kM78 : List aE := [(0, .aload_n 0, 1, 0, 0, 0, 0, 0),
  (1, .iconst 0, 1, 0, 0, 0, 0, 0),
  (2, .putfield 135, 3, 0, 11, 0, 0, 0),
  (5, .iload_n 1, 1, 0, 0, 0, 0, 0),
  (6, .iconst (-1), 1, 0, 0, 0, -1, 0),
  (7, .if_icmp .eq 27, 3, 0, 21, 1, 0, 0),
  (10, .iload_n 1, 1, 0, 0, 0, 0, 0),
  (11, .aload_n 0, 1, 0, 0, 0, 0, 0),
  (12, .getfield 105, 3, 0, 11, 45, 0, 0),
  (15, .iconst 1, 1, 0, 0, 0, 1, 0),
  (16, .iaload, 1, 0, 30, 0, 0, 0),
  (17, .aload_n 0, 1, 0, 0, 0, 0, 0),
  (18, .getfield 13, 3, 0, 11, 10, 0, 0),
  (21, .iconst 2, 1, 0, 0, 0, 2, 0),
  (22, .iaload, 1, 0, 30, 0, 0, 0),
  (23, .iconst 1, 1, 0, 0, 0, 1, 0),
  (24, .isub, 1, 0, 0, 0, 0, 0),
  (25, .invokestatic 269, 3, 0, 1, 19, 0, 0),
  (28, .ifCond .ne 6, 3, 0, 21, 1, 0, 0),
  (31, .bipush (-2), 2, 0, 0, 0, -2, 0),
  (33, .ireturn, 1, 0, 0, 0, 0, 0),
  (34, .aload_n 0, 1, 22, 0, 0, 0, 0),
  (35, .invokevirtual 469, 3, 0, 77, 1, 0, 0),
  (38, .aload_n 0, 1, 0, 0, 0, 0, 0),
  (39, .getfield 453, 3, 0, 11, 56, 0, 0),
  (42, .lconst 0, 1, 0, 0, 0, 0, 0),
  (43, .lcmp, 1, 0, 0, 0, 0, 0),
  (44, .ifCond .ne 6, 3, 0, 2, 0, 0, 0),
  (47, .bipush (-2), 2, 0, 0, 0, -2, 0),
  (49, .ireturn, 1, 0, 0, 0, 0, 0),
  (50, .iload_n 1, 1, 0, 0, 0, 0, 0),
  (51, .iconst (-1), 1, 0, 0, 0, -1, 0),
  (52, .if_icmp .ne 20, 3, 0, 9, 0, 0, 0),
  (55, .aload_n 0, 1, 0, 0, 0, 0, 0),
  (56, .getfield 453, 3, 0, 11, 56, 0, 0),
  (59, .ldc2_w 448, 3, 0, 0, 0, 0, 1000000),
  (62, .lmul, 1, 0, 0, 0, 0, 0),
  (63, .aload_n 0, 1, 0, 0, 0, 0, 0),
  (64, .getfield 450, 3, 0, 11, 57, 0, 0),
  (67, .ldiv, 1, 0, 0, 0, 0, 0),
  (68, .l2i, 1, 0, 0, 0, 0, 0),
  (69, .goto 9, 3, 0, 4, 0, 0, 0),
  (72, .aload_n 0, 1, 0, 0, 0, 0, 0),
  (73, .getfield 123, 3, 0, 11, 55, 0, 0),
  (76, .iload_n 1, 1, 0, 0, 0, 0, 0),
  (77, .iaload, 1, 0, 30, 0, 0, 0),
  (78, .ireturn, 1, 0, 0, 0, 0, 0)]
def lM78 (q : Nat) : Nat := 3
def kM79 : List aE := [(0, .aload_n 0, 1, 0, 0, 0, 0, 0),
  (1, .iconst 0, 1, 0, 0, 0, 0, 0),
  (2, .putfield 135, 3, 0, 11, 0, 0, 0),
  (5, .aload_n 0, 1, 0, 0, 0, 0, 0),
  (6, .invokevirtual 469, 3, 0, 77, 1, 0, 0),
  (9, .aload_n 0, 1, 0, 0, 0, 0, 0),
  (10, .getfield 456, 3, 0, 11, 58, 0, 0),
  (13, .ireturn, 1, 0, 0, 0, 0, 0)]
def lM79 (q : Nat) : Nat := 0
def kM80 : List aE := [(0, .aload_n 0, 1, 0, 0, 0, 0, 0),
  (1, .iconst 0, 1, 0, 0, 0, 0, 0),
  (2, .putfield 135, 3, 0, 11, 0, 0, 0),
  (5, .aload_n 0, 1, 0, 0, 0, 0, 0),
  (6, .invokevirtual 469, 3, 0, 77, 1, 0, 0),
  (9, .aload_n 0, 1, 0, 0, 0, 0, 0),
  (10, .getfield 459, 3, 0, 11, 59, 0, 0),
  (13, .ldc2_w 472, 3, 0, 0, 0, 0, 1000),
  (16, .ldiv, 1, 0, 0, 0, 0, 0),
  (17, .l2i, 1, 0, 0, 0, 0, 0),
  (18, .ireturn, 1, 0, 0, 0, 0, 0)]
def lM80 (q : Nat) : Nat := 0
def kM81 : List aE := [(0, .iconst 0, 1, 0, 0, 0, 0, 0),
  (1, .istore_n 1, 1, 0, 0, 0, 0, 0),
  (2, .iload_n 1, 1, 3, 0, 0, 0, 0),
  (3, .iconst 4, 1, 0, 0, 0, 4, 0),
  (4, .if_icmp .ge 16, 3, 0, 7, 0, 0, 0),
  (7, .aload_n 0, 1, 0, 0, 0, 0, 0),
  (8, .getfield 129, 3, 0, 11, 61, 0, 0),
  (11, .iload_n 1, 1, 0, 0, 0, 0, 0),
  (12, .iconst (-1), 1, 0, 0, 0, -1, 0),
  (13, .iastore, 1, 0, 30, 0, 0, 0),
  (14, .iinc 1 1, 3, 0, 0, 0, 1, 0),
  (17, .goto (-15), 3, 0, 2, 1, 0, 0),
  (20, .return_, 1, 0, 0, 0, 0, 0)]
def lM81 (q : Nat) : Nat := 3
def kM82 : List aE := [(0, .aload_n 0, 1, 0, 0, 0, 0, 0),
  (1, .getfield 129, 3, 0, 11, 61, 0, 0),
  (4, .iload_n 1, 1, 0, 0, 0, 0, 0),
  (5, .iaload, 1, 0, 30, 0, 0, 0),
  (6, .iconst (-1), 1, 0, 0, 0, -1, 0),
  (7, .if_icmp .eq 13, 3, 0, 6, 0, 0, 0),
  (10, .aload_n 0, 1, 0, 0, 0, 0, 0),
  (11, .getfield 129, 3, 0, 11, 61, 0, 0),
  (14, .iload_n 1, 1, 0, 0, 0, 0, 0),
  (15, .iaload, 1, 0, 30, 0, 0, 0),
  (16, .iload_n 2, 1, 0, 0, 0, 0, 0),
  (17, .if_icmp .ne 7, 3, 0, 2, 0, 0, 0),
  (20, .iconst 1, 1, 0, 0, 0, 1, 0),
  (21, .goto 4, 3, 0, 1, 0, 0, 0),
  (24, .iconst 0, 1, 0, 0, 0, 0, 0),
  (25, .ireturn, 1, 0, 1, 0, 0, 0)]
def lM82 (q : Nat) : Nat := 0
def kM83 : List aE := [(0, .aload_n 0, 1, 0, 0, 0, 0, 0),
  (1, .iload_n 2, 1, 0, 0, 0, 0, 0),
  (2, .iload_n 1, 1, 0, 0, 0, 0, 0),
  (3, .invokevirtual 366, 3, 0, 44, 19, 0, 0),
  (6, .istore 5, 2, 0, 0, 0, 0, 0),
  (8, .aload_n 0, 1, 0, 0, 0, 0, 0),
  (9, .iload_n 1, 1, 0, 0, 0, 0, 0),
  (10, .iload 5, 2, 0, 0, 0, 0, 0),
  (12, .iload 4, 2, 0, 0, 0, 0, 0),
  (14, .invokevirtual 436, 3, 0, 48, 20, 0, 0),
  (17, .istore 6, 2, 0, 0, 0, 0, 0),
  (19, .iload 6, 2, 0, 0, 0, 0, 0),
  (21, .ifCond .ne 4, 3, 0, 1, 0, 0, 0),
  (24, .return_, 1, 0, 0, 0, 0, 0),
  (25, .iconst 0, 1, 0, 0, 0, 0, 0),
  (26, .istore 7, 2, 0, 0, 0, 0, 0),
  (28, .iload 7, 2, 17, 0, 0, 0, 0),
  (30, .aload_n 0, 1, 0, 0, 0, 0, 0),
  (31, .getfield 13, 3, 0, 11, 10, 0, 0),
  (34, .iconst 1, 1, 0, 0, 0, 1, 0),
  (35, .iaload, 1, 0, 30, 0, 0, 0),
  (36, .if_icmp .ge 49, 3, 0, 28, 0, 0, 0),
  (39, .aload_n 0, 1, 0, 0, 0, 0, 0),
  (40, .getfield 26, 3, 0, 11, 14, 0, 0),
  (43, .iload 7, 2, 0, 0, 0, 0, 0),
  (45, .iaload, 1, 0, 30, 0, 0, 0),
  (46, .iload_n 1, 1, 0, 0, 0, 0, 0),
  (47, .if_icmp .ne 32, 3, 0, 20, 0, 0, 0),
  (50, .aload_n 0, 1, 0, 0, 0, 0, 0),
  (51, .getfield 126, 3, 0, 11, 60, 0, 0),
  (54, .iload 7, 2, 0, 0, 0, 0, 0),
  (56, .dup2, 1, 0, 0, 0, 0, 0),
  (57, .iaload, 1, 0, 30, 0, 0, 0),
  (58, .iload_n 3, 1, 0, 0, 0, 0, 0),
  (59, .i2l, 1, 0, 0, 0, 0, 0),
  (60, .aload_n 0, 1, 0, 0, 0, 0, 0),
  (61, .iload 7, 2, 0, 0, 0, 0, 0),
  (63, .iload 5, 2, 0, 0, 0, 0, 0),
  (65, .iload 4, 2, 0, 0, 0, 0, 0),
  (67, .invokevirtual 372, 3, 0, 45, 20, 0, 0),
  (70, .i2l, 1, 0, 0, 0, 0, 0),
  (71, .lmul, 1, 0, 0, 0, 0, 0),
  (72, .iload 6, 2, 0, 0, 0, 0, 0),
  (74, .i2l, 1, 0, 0, 0, 0, 0),
  (75, .ldiv, 1, 0, 0, 0, 0, 0),
  (76, .l2i, 1, 0, 0, 0, 0, 0),
  (77, .iadd, 1, 0, 0, 0, 0, 0),
  (78, .iastore, 1, 0, 30, 0, 0, 0),
  (79, .iinc 7 1, 3, 0, 0, 0, 1, 0),
  (82, .goto (-54), 3, 0, 16, 1, 0, 0),
  (85, .return_, 1, 0, 0, 0, 0, 0)]
def lM83 (q : Nat) : Nat := 251
def kM84 : List aE := [(0, .iconst 0, 1, 0, 0, 0, 0, 0),
  (1, .istore 4, 2, 0, 0, 0, 0, 0),
  (3, .iload 4, 2, 3, 0, 0, 0, 0),
  (5, .bipush 12, 2, 0, 0, 0, 12, 0),
  (7, .if_icmp .ge 17, 3, 0, 7, 0, 0, 0),
  (10, .aload_n 0, 1, 0, 0, 0, 0, 0),
  (11, .getfield 126, 3, 0, 11, 60, 0, 0),
  (14, .iload 4, 2, 0, 0, 0, 0, 0),
  (16, .iconst 0, 1, 0, 0, 0, 0, 0),
  (17, .iastore, 1, 0, 30, 0, 0, 0),
  (18, .iinc 4 1, 3, 0, 0, 0, 1, 0),
  (21, .goto (-18), 3, 0, 2, 1, 0, 0),
  (24, .aload_n 0, 1, 0, 0, 0, 0, 0),
  (25, .iload_n 1, 1, 0, 0, 0, 0, 0),
  (26, .iload_n 2, 1, 0, 0, 0, 0, 0),
  (27, .ldc_w 474, 3, 0, 0, 0, 1000000, 0),
  (30, .iload_n 3, 1, 0, 0, 0, 0, 0),
  (31, .invokevirtual 475, 3, 0, 83, 5, 0, 0),
  (34, .iload_n 1, 1, 0, 0, 0, 0, 0),
  (35, .istore 4, 2, 0, 0, 0, 0, 0),
  (37, .iload 4, 2, 21, 0, 0, 0, 0),
  (39, .iconst 1, 1, 0, 0, 0, 1, 0),
  (40, .iadd, 1, 0, 0, 0, 0, 0),
  (41, .aload_n 0, 1, 0, 0, 0, 0, 0),
  (42, .getfield 13, 3, 0, 11, 10, 0, 0),
  (45, .iconst 2, 1, 0, 0, 0, 2, 0),
  (46, .iaload, 1, 0, 30, 0, 0, 0),
  (47, .if_icmp .ge 75, 3, 0, 37, 0, 0, 0),
  (50, .iconst 0, 1, 0, 0, 0, 0, 0),
  (51, .istore 5, 2, 0, 0, 0, 0, 0),
  (53, .iload 5, 2, 31, 0, 0, 0, 0),
  (55, .aload_n 0, 1, 0, 0, 0, 0, 0),
  (56, .getfield 13, 3, 0, 11, 10, 0, 0),
  (59, .iconst 1, 1, 0, 0, 0, 1, 0),
  (60, .iaload, 1, 0, 30, 0, 0, 0),
  (61, .if_icmp .ge 55, 3, 0, 27, 0, 0, 0),
  (64, .aload_n 0, 1, 0, 0, 0, 0, 0),
  (65, .getfield 26, 3, 0, 11, 14, 0, 0),
  (68, .iload 5, 2, 0, 0, 0, 0, 0),
  (70, .iaload, 1, 0, 30, 0, 0, 0),
  (71, .iload 4, 2, 0, 0, 0, 0, 0),
  (73, .if_icmp .ne 37, 3, 0, 19, 0, 0, 0),
  (76, .aload_n 0, 1, 0, 0, 0, 0, 0),
  (77, .iload 4, 2, 0, 0, 0, 0, 0),
  (79, .iload 5, 2, 0, 0, 0, 0, 0),
  (81, .invokevirtual 478, 3, 0, 82, 19, 0, 0),
  (84, .ifCond .eq 26, 3, 0, 14, 0, 0, 0),
  (87, .aload_n 0, 1, 0, 0, 0, 0, 0),
  (88, .iload 4, 2, 0, 0, 0, 0, 0),
  (90, .iconst 1, 1, 0, 0, 0, 1, 0),
  (91, .iadd, 1, 0, 0, 0, 0, 0),
  (92, .iload_n 2, 1, 0, 0, 0, 0, 0),
  (93, .aload_n 0, 1, 0, 0, 0, 0, 0),
  (94, .getfield 126, 3, 0, 11, 60, 0, 0),
  (97, .iload 5, 2, 0, 0, 0, 0, 0),
  (99, .iaload, 1, 0, 30, 0, 0, 0),
  (100, .aload_n 0, 1, 0, 0, 0, 0, 0),
  (101, .getfield 32, 3, 0, 11, 16, 0, 0),
  (104, .iload 5, 2, 0, 0, 0, 0, 0),
  (106, .iaload, 1, 0, 30, 0, 0, 0),
  (107, .invokevirtual 475, 3, 0, 83, 5, 0, 0),
  (110, .iinc 5 1, 3, 0, 0, 0, 1, 0),
  (113, .goto (-60), 3, 0, 30, 1, 0, 0),
  (116, .iinc 4 1, 3, 0, 0, 0, 1, 0),
  (119, .goto (-82), 3, 0, 20, 1, 0, 0),
  (122, .iconst 0, 1, 0, 0, 0, 0, 0),
  (123, .istore 4, 2, 0, 0, 0, 0, 0),
  (125, .aload_n 0, 1, 0, 0, 0, 0, 0),
  (126, .getfield 13, 3, 0, 11, 10, 0, 0),
  (129, .iconst 2, 1, 0, 0, 0, 2, 0),
  (130, .iaload, 1, 0, 30, 0, 0, 0),
  (131, .iconst 1, 1, 0, 0, 0, 1, 0),
  (132, .isub, 1, 0, 0, 0, 0, 0),
  (133, .istore 5, 2, 0, 0, 0, 0, 0),
  (135, .iconst 0, 1, 0, 0, 0, 0, 0),
  (136, .istore 6, 2, 0, 0, 0, 0, 0),
  (138, .iload 6, 2, 77, 0, 0, 0, 0),
  (140, .aload_n 0, 1, 0, 0, 0, 0, 0),
  (141, .getfield 13, 3, 0, 11, 10, 0, 0),
  (144, .iconst 1, 1, 0, 0, 0, 1, 0),
  (145, .iaload, 1, 0, 30, 0, 0, 0),
  (146, .if_icmp .ge 48, 3, 0, 22, 0, 0, 0),
  (149, .iload 4, 2, 0, 0, 0, 0, 0),
  (151, .aload_n 0, 1, 0, 0, 0, 0, 0),
  (152, .getfield 26, 3, 0, 11, 14, 0, 0),
  (155, .iload 6, 2, 0, 0, 0, 0, 0),
  (157, .iaload, 1, 0, 30, 0, 0, 0),
  (158, .iload 5, 2, 0, 0, 0, 0, 0),
  (160, .if_icmp .ne 24, 3, 0, 10, 0, 0, 0),
  (163, .aload_n 0, 1, 0, 0, 0, 0, 0),
  (164, .iload 5, 2, 0, 0, 0, 0, 0),
  (166, .iload 6, 2, 0, 0, 0, 0, 0),
  (168, .invokevirtual 478, 3, 0, 82, 19, 0, 0),
  (171, .ifCond .eq 13, 3, 0, 5, 0, 0, 0),
  (174, .aload_n 0, 1, 0, 0, 0, 0, 0),
  (175, .getfield 126, 3, 0, 11, 60, 0, 0),
  (178, .iload 6, 2, 0, 0, 0, 0, 0),
  (180, .iaload, 1, 0, 30, 0, 0, 0),
  (181, .goto 4, 3, 0, 1, 0, 0, 0),
  (184, .iconst 0, 1, 0, 0, 0, 0, 0),
  (185, .iadd, 1, 0, 0, 0, 0, 0),
  (186, .istore 4, 2, 0, 0, 0, 0, 0),
  (188, .iinc 6 1, 3, 0, 0, 0, 1, 0),
  (191, .goto (-53), 3, 0, 76, 1, 0, 0),
  (194, .iload 4, 2, 0, 0, 0, 0, 0),
  (196, .ireturn, 1, 0, 0, 0, 0, 0)]
def lM84 (q : Nat) : Nat := cond (Nat.ble q 20) (cond (Nat.ble q 2) (31) (21)) (cond (Nat.ble q 30) (53) (113))
def kM85 : List aE := [(0, .aload_n 0, 1, 0, 0, 0, 0, 0),
  (1, .iconst 0, 1, 0, 0, 0, 0, 0),
  (2, .putfield 135, 3, 0, 11, 0, 0, 0),
  (5, .aload_n 0, 1, 0, 0, 0, 0, 0),
  (6, .iload_n 1, 1, 0, 0, 0, 0, 0),
  (7, .invokevirtual 378, 3, 0, 43, 18, 0, 0),
  (10, .ifCond .eq 29, 3, 0, 16, 0, 0, 0),
  (13, .iload_n 2, 1, 0, 0, 0, 0, 0),
  (14, .iconst 0, 1, 0, 0, 0, 0, 0),
  (15, .iconst 1, 1, 0, 0, 0, 1, 0),
  (16, .invokestatic 269, 3, 0, 1, 19, 0, 0),
  (19, .ifCond .eq 20, 3, 0, 11, 0, 0, 0),
  (22, .aload_n 0, 1, 0, 0, 0, 0, 0),
  (23, .getfield 26, 3, 0, 11, 14, 0, 0),
  (26, .iload_n 1, 1, 0, 0, 0, 0, 0),
  (27, .iaload, 1, 0, 30, 0, 0, 0),
  (28, .aload_n 0, 1, 0, 0, 0, 0, 0),
  (29, .getfield 13, 3, 0, 11, 10, 0, 0),
  (32, .iconst 2, 1, 0, 0, 0, 2, 0),
  (33, .iaload, 1, 0, 30, 0, 0, 0),
  (34, .iconst 1, 1, 0, 0, 0, 1, 0),
  (35, .isub, 1, 0, 0, 0, 0, 0),
  (36, .if_icmp .eq 5, 3, 0, 2, 0, 0, 0),
  (39, .iconst (-1), 1, 0, 0, 0, -1, 0),
  (40, .ireturn, 1, 0, 0, 0, 0, 0),
  (41, .iconst (-1), 1, 0, 0, 0, -1, 0),
  (42, .istore_n 3, 1, 0, 0, 0, 0, 0),
  (43, .iconst 0, 1, 0, 0, 0, 0, 0),
  (44, .istore 4, 2, 0, 0, 0, 0, 0),
  (46, .aload_n 0, 1, 0, 0, 0, 0, 0),
  (47, .invokevirtual 481, 3, 0, 81, 1, 0, 0),
  (50, .iconst 0, 1, 0, 0, 0, 0, 0),
  (51, .istore 5, 2, 0, 0, 0, 0, 0),
  (53, .iload 5, 2, 34, 0, 0, 0, 0),
  (55, .aload_n 0, 1, 0, 0, 0, 0, 0),
  (56, .getfield 13, 3, 0, 11, 10, 0, 0),
  (59, .iconst 1, 1, 0, 0, 0, 1, 0),
  (60, .iaload, 1, 0, 30, 0, 0, 0),
  (61, .if_icmp .ge 108, 3, 0, 57, 0, 0, 0),
  (64, .aload_n 0, 1, 0, 0, 0, 0, 0),
  (65, .iload 5, 2, 0, 0, 0, 0, 0),
  (67, .invokevirtual 403, 3, 0, 55, 18, 0, 0),
  (70, .ifCond .ne 6, 3, 0, 1, 0, 0, 0),
  (73, .goto 90, 3, 0, 50, 0, 0, 0),
  (76, .iload 5, 2, 0, 0, 0, 0, 0),
  (78, .iload_n 1, 1, 0, 0, 0, 0, 0),
  (79, .if_icmp .ne 9, 3, 0, 2, 0, 0, 0),
  (82, .ldc_w 474, 3, 0, 0, 0, 1000000, 0),
  (85, .goto 4, 3, 0, 50, 1, 0, 0),
  (88, .iconst 0, 1, 0, 0, 0, 0, 0),
  (89, .istore 6, 2, 51, 0, 0, 0, 0),
  (91, .aload_n 0, 1, 0, 0, 0, 0, 0),
  (92, .getfield 105, 3, 0, 11, 45, 0, 0),
  (95, .iconst 1, 1, 0, 0, 0, 1, 0),
  (96, .iaload, 1, 0, 30, 0, 0, 0),
  (97, .iconst 1, 1, 0, 0, 0, 1, 0),
  (98, .iadd, 1, 0, 0, 0, 0, 0),
  (99, .aload_n 0, 1, 0, 0, 0, 0, 0),
  (100, .getfield 13, 3, 0, 11, 10, 0, 0),
  (103, .iconst 2, 1, 0, 0, 0, 2, 0),
  (104, .iaload, 1, 0, 30, 0, 0, 0),
  (105, .if_icmp .ge 37, 3, 0, 84, 1, 0, 0),
  (108, .aload_n 0, 1, 0, 0, 0, 0, 0),
  (109, .aload_n 0, 1, 0, 0, 0, 0, 0),
  (110, .getfield 105, 3, 0, 11, 45, 0, 0),
  (113, .iconst 1, 1, 0, 0, 0, 1, 0),
  (114, .iaload, 1, 0, 30, 0, 0, 0),
  (115, .iconst 1, 1, 0, 0, 0, 1, 0),
  (116, .iadd, 1, 0, 0, 0, 0, 0),
  (117, .aload_n 0, 1, 0, 0, 0, 0, 0),
  (118, .getfield 105, 3, 0, 11, 45, 0, 0),
  (121, .iconst 0, 1, 0, 0, 0, 0, 0),
  (122, .iaload, 1, 0, 30, 0, 0, 0),
  (123, .aload_n 0, 1, 0, 0, 0, 0, 0),
  (124, .getfield 32, 3, 0, 11, 16, 0, 0),
  (127, .iload 5, 2, 0, 0, 0, 0, 0),
  (129, .iaload, 1, 0, 30, 0, 0, 0),
  (130, .invokevirtual 484, 3, 0, 84, 20, 0, 0),
  (133, .pop, 1, 0, 0, 0, 0, 0),
  (134, .aload_n 0, 1, 0, 0, 0, 0, 0),
  (135, .getfield 126, 3, 0, 11, 60, 0, 0),
  (138, .iload_n 1, 1, 0, 0, 0, 0, 0),
  (139, .iaload, 1, 0, 30, 0, 0, 0),
  (140, .istore 6, 2, 0, 0, 0, 0, 0),
  (142, .iload_n 3, 1, 85, 0, 0, 0, 0),
  (143, .ifCond .lt 13, 3, 0, 4, 0, 0, 0),
  (146, .iload 6, 2, 0, 0, 0, 0, 0),
  (148, .iload 4, 2, 0, 0, 0, 0, 0),
  (150, .if_icmp .gt 6, 3, 0, 1, 0, 0, 0),
  (153, .goto 10, 3, 0, 4, 0, 0, 0),
  (156, .iload 5, 2, 0, 0, 0, 0, 0),
  (158, .istore_n 3, 1, 0, 0, 0, 0, 0),
  (159, .iload 6, 2, 0, 0, 0, 0, 0),
  (161, .istore 4, 2, 0, 0, 0, 0, 0),
  (163, .iinc 5 1, 3, 0, 0, 0, 1, 0),
  (166, .goto (-113), 3, 0, 33, 1, 0, 0),
  (169, .iload_n 3, 1, 0, 0, 0, 0, 0),
  (170, .ifCond .lt 7, 3, 0, 2, 0, 0, 0),
  (173, .iload_n 2, 1, 0, 0, 0, 0, 0),
  (174, .ifCond .ne 7, 3, 0, 2, 0, 0, 0),
  (177, .iload_n 3, 1, 0, 0, 0, 0, 0),
  (178, .goto 5, 3, 0, 1, 0, 0, 0),
  (181, .iload 4, 2, 0, 0, 0, 0, 0),
  (183, .ireturn, 1, 0, 0, 0, 0, 0)]
def lM85 (q : Nat) : Nat := cond (Nat.ble q 33) (63) (cond (Nat.ble q 50) (63) (127))
def kM86 : List aE := [(0, .aload_n 0, 1, 0, 0, 0, 0, 0),
  (1, .iconst 0, 1, 0, 0, 0, 0, 0),
  (2, .putfield 135, 3, 0, 11, 0, 0, 0),
  (5, .aload_n 0, 1, 0, 0, 0, 0, 0),
  (6, .iload_n 1, 1, 0, 0, 0, 0, 0),
  (7, .invokevirtual 378, 3, 0, 43, 18, 0, 0),
  (10, .ifCond .eq 66, 3, 0, 36, 0, 0, 0),
  (13, .aload_n 0, 1, 0, 0, 0, 0, 0),
  (14, .iload_n 2, 1, 0, 0, 0, 0, 0),
  (15, .invokevirtual 378, 3, 0, 43, 18, 0, 0),
  (18, .ifCond .eq 58, 3, 0, 32, 0, 0, 0),
  (21, .iload_n 3, 1, 0, 0, 0, 0, 0),
  (22, .iconst 1, 1, 0, 0, 0, 1, 0),
  (23, .bipush 9, 2, 0, 0, 0, 9, 0),
  (25, .invokestatic 269, 3, 0, 1, 19, 0, 0),
  (28, .ifCond .eq 48, 3, 0, 27, 0, 0, 0),
  (31, .aload_n 0, 1, 0, 0, 0, 0, 0),
  (32, .getfield 26, 3, 0, 11, 14, 0, 0),
  (35, .iload_n 1, 1, 0, 0, 0, 0, 0),
  (36, .iaload, 1, 0, 30, 0, 0, 0),
  (37, .aload_n 0, 1, 0, 0, 0, 0, 0),
  (38, .getfield 26, 3, 0, 11, 14, 0, 0),
  (41, .iload_n 2, 1, 0, 0, 0, 0, 0),
  (42, .iaload, 1, 0, 30, 0, 0, 0),
  (43, .if_icmp .eq 33, 3, 0, 18, 0, 0, 0),
  (46, .aload_n 0, 1, 0, 0, 0, 0, 0),
  (47, .getfield 26, 3, 0, 11, 14, 0, 0),
  (50, .iload_n 1, 1, 0, 0, 0, 0, 0),
  (51, .iaload, 1, 0, 30, 0, 0, 0),
  (52, .aload_n 0, 1, 0, 0, 0, 0, 0),
  (53, .getfield 13, 3, 0, 11, 10, 0, 0),
  (56, .iconst 2, 1, 0, 0, 0, 2, 0),
  (57, .iaload, 1, 0, 30, 0, 0, 0),
  (58, .if_icmp .ge 18, 3, 0, 9, 0, 0, 0),
  (61, .aload_n 0, 1, 0, 0, 0, 0, 0),
  (62, .getfield 26, 3, 0, 11, 14, 0, 0),
  (65, .iload_n 2, 1, 0, 0, 0, 0, 0),
  (66, .iaload, 1, 0, 30, 0, 0, 0),
  (67, .aload_n 0, 1, 0, 0, 0, 0, 0),
  (68, .getfield 13, 3, 0, 11, 10, 0, 0),
  (71, .iconst 2, 1, 0, 0, 0, 2, 0),
  (72, .iaload, 1, 0, 30, 0, 0, 0),
  (73, .if_icmp .lt 5, 3, 0, 2, 0, 0, 0),
  (76, .iconst (-1), 1, 0, 0, 0, -1, 0),
  (77, .ireturn, 1, 0, 0, 0, 0, 0),
  (78, .aload_n 0, 1, 0, 0, 0, 0, 0),
  (79, .invokevirtual 481, 3, 0, 81, 1, 0, 0),
  (82, .aload_n 0, 1, 0, 0, 0, 0, 0),
  (83, .getfield 129, 3, 0, 11, 61, 0, 0),
  (86, .aload_n 0, 1, 0, 0, 0, 0, 0),
  (87, .getfield 26, 3, 0, 11, 14, 0, 0),
  (90, .iload_n 1, 1, 0, 0, 0, 0, 0),
  (91, .iaload, 1, 0, 30, 0, 0, 0),
  (92, .iload_n 1, 1, 0, 0, 0, 0, 0),
  (93, .iastore, 1, 0, 30, 0, 0, 0),
  (94, .aload_n 0, 1, 0, 0, 0, 0, 0),
  (95, .getfield 129, 3, 0, 11, 61, 0, 0),
  (98, .aload_n 0, 1, 0, 0, 0, 0, 0),
  (99, .getfield 26, 3, 0, 11, 14, 0, 0),
  (102, .iload_n 2, 1, 0, 0, 0, 0, 0),
  (103, .iaload, 1, 0, 30, 0, 0, 0),
  (104, .iload_n 2, 1, 0, 0, 0, 0, 0),
  (105, .iastore, 1, 0, 30, 0, 0, 0),
  (106, .ldc_w 474, 3, 0, 0, 0, 1000000, 0),
  (109, .istore 4, 2, 0, 0, 0, 0, 0),
  (111, .iconst 0, 1, 0, 0, 0, 0, 0),
  (112, .istore 5, 2, 0, 0, 0, 0, 0),
  (114, .iload 5, 2, 68, 0, 0, 0, 0),
  (116, .iload_n 3, 1, 0, 0, 0, 0, 0),
  (117, .if_icmp .ge 40, 3, 0, 22, 0, 0, 0),
  (120, .iload 4, 2, 0, 0, 0, 0, 0),
  (122, .i2l, 1, 0, 0, 0, 0, 0),
  (123, .ldc_w 474, 3, 0, 0, 0, 1000000, 0),
  (126, .aload_n 0, 1, 0, 0, 0, 0, 0),
  (127, .iconst 0, 1, 0, 0, 0, 0, 0),
  (128, .aload_n 0, 1, 0, 0, 0, 0, 0),
  (129, .getfield 105, 3, 0, 11, 45, 0, 0),
  (132, .iconst 0, 1, 0, 0, 0, 0, 0),
  (133, .iaload, 1, 0, 30, 0, 0, 0),
  (134, .iload 5, 2, 0, 0, 0, 0, 0),
  (136, .iadd, 1, 0, 0, 0, 0, 0),
  (137, .iconst 0, 1, 0, 0, 0, 0, 0),
  (138, .invokevirtual 484, 3, 0, 84, 20, 0, 0),
  (141, .isub, 1, 0, 0, 0, 0, 0),
  (142, .i2l, 1, 0, 0, 0, 0, 0),
  (143, .lmul, 1, 0, 0, 0, 0, 0),
  (144, .ldc2_w 448, 3, 0, 0, 0, 0, 1000000),
  (147, .ldiv, 1, 0, 0, 0, 0, 0),
  (148, .l2i, 1, 0, 0, 0, 0, 0),
  (149, .istore 4, 2, 0, 0, 0, 0, 0),
  (151, .iinc 5 1, 3, 0, 0, 0, 1, 0),
  (154, .goto (-40), 3, 0, 67, 1, 0, 0),
  (157, .ldc_w 474, 3, 0, 0, 0, 1000000, 0),
  (160, .iload 4, 2, 0, 0, 0, 0, 0),
  (162, .isub, 1, 0, 0, 0, 0, 0),
  (163, .ireturn, 1, 0, 0, 0, 0, 0)]
def lM86 (q : Nat) : Nat := 57
def kM87 : List aE := [(0, .aload_n 0, 1, 0, 0, 0, 0, 0),
  (1, .iconst 0, 1, 0, 0, 0, 0, 0),
  (2, .putfield 135, 3, 0, 11, 0, 0, 0),
  (5, .aload_n 0, 1, 0, 0, 0, 0, 0),
  (6, .aload_n 0, 1, 0, 0, 0, 0, 0),
  (7, .invokevirtual 487, 3, 0, 68, 17, 0, 0),
  (10, .invokevirtual 490, 3, 0, 67, 18, 0, 0),
  (13, .ireturn, 1, 0, 0, 0, 0, 0)]
def lM87 (q : Nat) : Nat := 0
def kM88 : List aE := [(0, .aload_n 0, 1, 0, 0, 0, 0, 0),
  (1, .iconst 0, 1, 0, 0, 0, 0, 0),
  (2, .putfield 135, 3, 0, 11, 0, 0, 0),
  (5, .aload_n 0, 1, 0, 0, 0, 0, 0),
  (6, .invokevirtual 487, 3, 0, 68, 17, 0, 0),
  (9, .istore_n 1, 1, 0, 0, 0, 0, 0),
  (10, .iconst (-1), 1, 0, 0, 0, -1, 0),
  (11, .istore_n 2, 1, 0, 0, 0, 0, 0),
  (12, .iconst 0, 1, 0, 0, 0, 0, 0),
  (13, .istore_n 3, 1, 0, 0, 0, 0, 0),
  (14, .iload_n 3, 1, 11, 0, 0, 0, 0),
  (15, .iload_n 1, 1, 0, 0, 0, 0, 0),
  (16, .if_icmp .gt 38, 3, 0, 19, 0, 0, 0),
  (19, .iload_n 2, 1, 0, 0, 0, 0, 0),
  (20, .ifCond .lt 14, 3, 0, 5, 0, 0, 0),
  (23, .iload_n 3, 1, 0, 0, 0, 0, 0),
  (24, .invokestatic 439, 3, 0, 3, 17, 0, 0),
  (27, .iload_n 2, 1, 0, 0, 0, 0, 0),
  (28, .invokestatic 439, 3, 0, 3, 17, 0, 0),
  (31, .if_icmp .ge 17, 3, 0, 10, 0, 0, 0),
  (34, .aload_n 0, 1, 0, 0, 0, 0, 0),
  (35, .iload_n 1, 1, 0, 0, 0, 0, 0),
  (36, .iload_n 3, 1, 0, 0, 0, 0, 0),
  (37, .iconst (-1), 1, 0, 0, 0, -1, 0),
  (38, .ixor, 1, 0, 0, 0, 0, 0),
  (39, .iand, 1, 0, 0, 0, 0, 0),
  (40, .invokevirtual 490, 3, 0, 67, 18, 0, 0),
  (43, .ifCond .ne 5, 3, 0, 2, 0, 0, 0),
  (46, .iload_n 3, 1, 0, 0, 0, 0, 0),
  (47, .istore_n 2, 1, 0, 0, 0, 0, 0),
  (48, .iinc 3 1, 3, 0, 0, 0, 1, 0),
  (51, .goto (-37), 3, 0, 10, 1, 0, 0),
  (54, .iload_n 2, 1, 0, 0, 0, 0, 0),
  (55, .ireturn, 1, 0, 0, 0, 0, 0)]
def lM88 (q : Nat) : Nat := 15
def kM89 : List aE := [(0, .aload_n 0, 1, 0, 0, 0, 0, 0),
  (1, .iconst 0, 1, 0, 0, 0, 0, 0),
  (2, .putfield 135, 3, 0, 11, 0, 0, 0),
  (5, .aload_n 0, 1, 0, 0, 0, 0, 0),
  (6, .iload_n 1, 1, 0, 0, 0, 0, 0),
  (7, .invokevirtual 378, 3, 0, 43, 18, 0, 0),
  (10, .ifCond .eq 29, 3, 0, 15, 0, 0, 0),
  (13, .aload_n 0, 1, 0, 0, 0, 0, 0),
  (14, .getfield 26, 3, 0, 11, 14, 0, 0),
  (17, .iload_n 1, 1, 0, 0, 0, 0, 0),
  (18, .iaload, 1, 0, 30, 0, 0, 0),
  (19, .aload_n 0, 1, 0, 0, 0, 0, 0),
  (20, .getfield 13, 3, 0, 11, 10, 0, 0),
  (23, .iconst 2, 1, 0, 0, 0, 2, 0),
  (24, .iaload, 1, 0, 30, 0, 0, 0),
  (25, .if_icmp .ge 14, 3, 0, 6, 0, 0, 0),
  (28, .aload_n 0, 1, 0, 0, 0, 0, 0),
  (29, .getfield 99, 3, 0, 11, 43, 0, 0),
  (32, .iconst 0, 1, 0, 0, 0, 0, 0),
  (33, .iaload, 1, 0, 30, 0, 0, 0),
  (34, .bipush 8, 2, 0, 0, 0, 8, 0),
  (36, .if_icmp .ne 5, 3, 0, 2, 0, 0, 0),
  (39, .iconst 0, 1, 0, 0, 0, 0, 0),
  (40, .ireturn, 1, 0, 1, 0, 0, 0),
  (41, .aload_n 0, 1, 0, 0, 0, 0, 0),
  (42, .getfield 102, 3, 0, 11, 44, 0, 0),
  (45, .aload_n 0, 1, 0, 0, 0, 0, 0),
  (46, .getfield 99, 3, 0, 11, 43, 0, 0),
  (49, .iconst 0, 1, 0, 0, 0, 0, 0),
  (50, .iaload, 1, 0, 30, 0, 0, 0),
  (51, .iload_n 1, 1, 0, 0, 0, 0, 0),
  (52, .iastore, 1, 0, 30, 0, 0, 0),
  (53, .aload_n 0, 1, 0, 0, 0, 0, 0),
  (54, .getfield 99, 3, 0, 11, 43, 0, 0),
  (57, .iconst 0, 1, 0, 0, 0, 0, 0),
  (58, .dup2, 1, 0, 0, 0, 0, 0),
  (59, .iaload, 1, 0, 30, 0, 0, 0),
  (60, .iconst 1, 1, 0, 0, 0, 1, 0),
  (61, .iadd, 1, 0, 0, 0, 0, 0),
  (62, .iastore, 1, 0, 30, 0, 0, 0),
  (63, .iconst 1, 1, 0, 0, 0, 1, 0),
  (64, .ireturn, 1, 0, 1, 0, 0, 0)]
def lM89 (q : Nat) : Nat := 0
def kM90 : List aE := [(0, .aload_n 0, 1, 0, 0, 0, 0, 0),
  (1, .invokevirtual 481, 3, 0, 81, 1, 0, 0),
  (4, .iconst 0, 1, 0, 0, 0, 0, 0),
  (5, .istore_n 1, 1, 0, 0, 0, 0, 0),
  (6, .iload_n 1, 1, 5, 0, 0, 0, 0),
  (7, .aload_n 0, 1, 0, 0, 0, 0, 0),
  (8, .getfield 99, 3, 0, 11, 43, 0, 0),
  (11, .iconst 0, 1, 0, 0, 0, 0, 0),
  (12, .iaload, 1, 0, 30, 0, 0, 0),
  (13, .if_icmp .ge 59, 3, 0, 34, 0, 0, 0),
  (16, .aload_n 0, 1, 0, 0, 0, 0, 0),
  (17, .getfield 102, 3, 0, 11, 44, 0, 0),
  (20, .iload_n 1, 1, 0, 0, 0, 0, 0),
  (21, .iaload, 1, 0, 30, 0, 0, 0),
  (22, .istore_n 2, 1, 0, 0, 0, 0, 0),
  (23, .aload_n 0, 1, 0, 0, 0, 0, 0),
  (24, .getfield 129, 3, 0, 11, 61, 0, 0),
  (27, .aload_n 0, 1, 0, 0, 0, 0, 0),
  (28, .getfield 26, 3, 0, 11, 14, 0, 0),
  (31, .iload_n 2, 1, 0, 0, 0, 0, 0),
  (32, .iaload, 1, 0, 30, 0, 0, 0),
  (33, .iaload, 1, 0, 30, 0, 0, 0),
  (34, .ifCond .lt 20, 3, 0, 11, 0, 0, 0),
  (37, .aload_n 0, 1, 0, 0, 0, 0, 0),
  (38, .getfield 129, 3, 0, 11, 61, 0, 0),
  (41, .aload_n 0, 1, 0, 0, 0, 0, 0),
  (42, .getfield 26, 3, 0, 11, 14, 0, 0),
  (45, .iload_n 2, 1, 0, 0, 0, 0, 0),
  (46, .iaload, 1, 0, 30, 0, 0, 0),
  (47, .iaload, 1, 0, 30, 0, 0, 0),
  (48, .iload_n 2, 1, 0, 0, 0, 0, 0),
  (49, .if_icmp .eq 5, 3, 0, 2, 0, 0, 0),
  (52, .iconst 0, 1, 0, 0, 0, 0, 0),
  (53, .ireturn, 1, 0, 1, 0, 0, 0),
  (54, .aload_n 0, 1, 0, 0, 0, 0, 0),
  (55, .getfield 129, 3, 0, 11, 61, 0, 0),
  (58, .aload_n 0, 1, 0, 0, 0, 0, 0),
  (59, .getfield 26, 3, 0, 11, 14, 0, 0),
  (62, .iload_n 2, 1, 0, 0, 0, 0, 0),
  (63, .iaload, 1, 0, 30, 0, 0, 0),
  (64, .iload_n 2, 1, 0, 0, 0, 0, 0),
  (65, .iastore, 1, 0, 30, 0, 0, 0),
  (66, .iinc 1 1, 3, 0, 0, 0, 1, 0),
  (69, .goto (-63), 3, 0, 4, 1, 0, 0),
  (72, .iconst 1, 1, 0, 0, 0, 1, 0),
  (73, .ireturn, 1, 0, 1, 0, 0, 0)]
def lM90 (q : Nat) : Nat := 3
def kM91 : List aE := [(0, .iconst 0, 1, 0, 0, 0, 0, 0),
  (1, .istore_n 1, 1, 0, 0, 0, 0, 0),
  (2, .iconst 0, 1, 0, 0, 0, 0, 0),
  (3, .istore_n 2, 1, 0, 0, 0, 0, 0),
  (4, .iload_n 2, 1, 5, 0, 0, 0, 0),
  (5, .aload_n 0, 1, 0, 0, 0, 0, 0),
  (6, .getfield 13, 3, 0, 11, 10, 0, 0),
  (9, .iconst 0, 1, 0, 0, 0, 0, 0),
  (10, .iaload, 1, 0, 30, 0, 0, 0),
  (11, .if_icmp .ge 36, 3, 0, 19, 0, 0, 0),
  (14, .iload_n 1, 1, 0, 0, 0, 0, 0),
  (15, .aload_n 0, 1, 0, 0, 0, 0, 0),
  (16, .invokevirtual 493, 3, 0, 90, 17, 0, 0),
  (19, .ifCond .eq 19, 3, 0, 10, 0, 0, 0),
  (22, .aload_n 0, 1, 0, 0, 0, 0, 0),
  (23, .iconst 0, 1, 0, 0, 0, 0, 0),
  (24, .iload_n 2, 1, 0, 0, 0, 0, 0),
  (25, .iconst 0, 1, 0, 0, 0, 0, 0),
  (26, .invokevirtual 484, 3, 0, 84, 20, 0, 0),
  (29, .ifCond .le 9, 3, 0, 4, 0, 0, 0),
  (32, .iconst 1, 1, 0, 0, 0, 1, 0),
  (33, .iload_n 2, 1, 0, 0, 0, 0, 0),
  (34, .ishl, 1, 0, 0, 0, 0, 0),
  (35, .goto 4, 3, 0, 1, 0, 0, 0),
  (38, .iconst 0, 1, 0, 0, 0, 0, 0),
  (39, .ior, 1, 0, 0, 0, 0, 0),
  (40, .istore_n 1, 1, 0, 0, 0, 0, 0),
  (41, .iinc 2 1, 3, 0, 0, 0, 1, 0),
  (44, .goto (-40), 3, 0, 4, 1, 0, 0),
  (47, .iload_n 1, 1, 0, 0, 0, 0, 0),
  (48, .ireturn, 1, 0, 0, 0, 0, 0)]
def lM91 (q : Nat) : Nat := 7
def kM92 : List aE := [(0, .aload_n 0, 1, 0, 0, 0, 0, 0),
  (1, .iconst 0, 1, 0, 0, 0, 0, 0),
  (2, .putfield 135, 3, 0, 11, 0, 0, 0),
  (5, .aload_n 0, 1, 0, 0, 0, 0, 0),
  (6, .invokevirtual 496, 3, 0, 91, 17, 0, 0),
  (9, .ireturn, 1, 0, 0, 0, 0, 0)]
def lM92 (q : Nat) : Nat := 0
def kM93 : List aE := [(0, .aload_n 0, 1, 0, 0, 0, 0, 0),
  (1, .iconst 0, 1, 0, 0, 0, 0, 0),
  (2, .putfield 135, 3, 0, 11, 0, 0, 0),
  (5, .iconst (-1), 1, 0, 0, 0, -1, 0),
  (6, .istore_n 1, 1, 0, 0, 0, 0, 0),
  (7, .iconst 0, 1, 0, 0, 0, 0, 0),
  (8, .istore_n 2, 1, 0, 0, 0, 0, 0),
  (9, .iconst 0, 1, 0, 0, 0, 0, 0),
  (10, .istore_n 3, 1, 0, 0, 0, 0, 0),
  (11, .iload_n 3, 1, 10, 0, 0, 0, 0),
  (12, .aload_n 0, 1, 0, 0, 0, 0, 0),
  (13, .getfield 13, 3, 0, 11, 10, 0, 0),
  (16, .iconst 0, 1, 0, 0, 0, 0, 0),
  (17, .iaload, 1, 0, 30, 0, 0, 0),
  (18, .if_icmp .ge 43, 3, 0, 21, 0, 0, 0),
  (21, .aload_n 0, 1, 0, 0, 0, 0, 0),
  (22, .invokevirtual 493, 3, 0, 90, 17, 0, 0),
  (25, .ifCond .eq 13, 3, 0, 6, 0, 0, 0),
  (28, .aload_n 0, 1, 0, 0, 0, 0, 0),
  (29, .iconst 0, 1, 0, 0, 0, 0, 0),
  (30, .iload_n 3, 1, 0, 0, 0, 0, 0),
  (31, .iconst 0, 1, 0, 0, 0, 0, 0),
  (32, .invokevirtual 484, 3, 0, 84, 20, 0, 0),
  (35, .goto 4, 3, 0, 1, 0, 0, 0),
  (38, .iconst 0, 1, 0, 0, 0, 0, 0),
  (39, .istore 4, 2, 0, 0, 0, 0, 0),
  (41, .iload 4, 2, 0, 0, 0, 0, 0),
  (43, .iload_n 2, 1, 0, 0, 0, 0, 0),
  (44, .if_icmp .gt 6, 3, 0, 1, 0, 0, 0),
  (47, .goto 8, 3, 0, 4, 0, 0, 0),
  (50, .iload 4, 2, 0, 0, 0, 0, 0),
  (52, .istore_n 2, 1, 0, 0, 0, 0, 0),
  (53, .iload_n 3, 1, 0, 0, 0, 0, 0),
  (54, .istore_n 1, 1, 0, 0, 0, 0, 0),
  (55, .iinc 3 1, 3, 0, 0, 0, 1, 0),
  (58, .goto (-47), 3, 0, 9, 1, 0, 0),
  (61, .iload_n 1, 1, 0, 0, 0, 0, 0),
  (62, .ireturn, 1, 0, 0, 0, 0, 0)]
def lM93 (q : Nat) : Nat := 15
def kM94 : List aE := [(0, .iconst (-1), 1, 0, 0, 0, -1, 0),
  (1, .istore_n 3, 1, 0, 0, 0, 0, 0),
  (2, .iconst 0, 1, 0, 0, 0, 0, 0),
  (3, .istore 4, 2, 0, 0, 0, 0, 0),
  (5, .iconst 0, 1, 0, 0, 0, 0, 0),
  (6, .istore 5, 2, 0, 0, 0, 0, 0),
  (8, .iload 5, 2, 7, 0, 0, 0, 0),
  (10, .aload_n 0, 1, 0, 0, 0, 0, 0),
  (11, .getfield 13, 3, 0, 11, 10, 0, 0),
  (14, .iconst 1, 1, 0, 0, 0, 1, 0),
  (15, .iaload, 1, 0, 30, 0, 0, 0),
  (16, .if_icmp .ge 51, 3, 0, 24, 0, 0, 0),
  (19, .aload_n 0, 1, 0, 0, 0, 0, 0),
  (20, .getfield 26, 3, 0, 11, 14, 0, 0),
  (23, .iload 5, 2, 0, 0, 0, 0, 0),
  (25, .iaload, 1, 0, 30, 0, 0, 0),
  (26, .iload_n 1, 1, 0, 0, 0, 0, 0),
  (27, .if_icmp .ne 14, 3, 0, 6, 0, 0, 0),
  (30, .aload_n 0, 1, 0, 0, 0, 0, 0),
  (31, .iload 5, 2, 0, 0, 0, 0, 0),
  (33, .iload_n 2, 1, 0, 0, 0, 0, 0),
  (34, .iconst 0, 1, 0, 0, 0, 0, 0),
  (35, .invokevirtual 372, 3, 0, 45, 20, 0, 0),
  (38, .goto 4, 3, 0, 1, 0, 0, 0),
  (41, .iconst 0, 1, 0, 0, 0, 0, 0),
  (42, .istore 6, 2, 0, 0, 0, 0, 0),
  (44, .iload 6, 2, 0, 0, 0, 0, 0),
  (46, .iload 4, 2, 0, 0, 0, 0, 0),
  (48, .if_icmp .gt 6, 3, 0, 1, 0, 0, 0),
  (51, .goto 10, 3, 0, 4, 0, 0, 0),
  (54, .iload 6, 2, 0, 0, 0, 0, 0),
  (56, .istore 4, 2, 0, 0, 0, 0, 0),
  (58, .iload 5, 2, 0, 0, 0, 0, 0),
  (60, .istore_n 3, 1, 0, 0, 0, 0, 0),
  (61, .iinc 5 1, 3, 0, 0, 0, 1, 0),
  (64, .goto (-56), 3, 0, 6, 1, 0, 0),
  (67, .iload_n 3, 1, 0, 0, 0, 0, 0),
  (68, .ireturn, 1, 0, 0, 0, 0, 0)]
def lM94 (q : Nat) : Nat := 63
def kM95 : List aE := [(0, .aload_n 0, 1, 0, 0, 0, 0, 0),
  (1, .iconst 0, 1, 0, 0, 0, 0, 0),
  (2, .putfield 135, 3, 0, 11, 0, 0, 0),
  (5, .aload_n 0, 1, 0, 0, 0, 0, 0),
  (6, .invokevirtual 496, 3, 0, 91, 17, 0, 0),
  (9, .istore_n 1, 1, 0, 0, 0, 0, 0),
  (10, .iconst (-1), 1, 0, 0, 0, -1, 0),
  (11, .istore_n 2, 1, 0, 0, 0, 0, 0),
  (12, .iconst 1, 1, 0, 0, 0, 1, 0),
  (13, .istore_n 3, 1, 0, 0, 0, 0, 0),
  (14, .aload_n 0, 1, 0, 0, 0, 0, 0),
  (15, .invokevirtual 493, 3, 0, 90, 17, 0, 0),
  (18, .pop, 1, 0, 0, 0, 0, 0),
  (19, .iconst 0, 1, 0, 0, 0, 0, 0),
  (20, .istore 4, 2, 0, 0, 0, 0, 0),
  (22, .iload 4, 2, 16, 0, 0, 0, 0),
  (24, .aload_n 0, 1, 0, 0, 0, 0, 0),
  (25, .getfield 13, 3, 0, 11, 10, 0, 0),
  (28, .iconst 2, 1, 0, 0, 0, 2, 0),
  (29, .iaload, 1, 0, 30, 0, 0, 0),
  (30, .if_icmp .ge 114, 3, 0, 57, 0, 0, 0),
  (33, .aload_n 0, 1, 0, 0, 0, 0, 0),
  (34, .getfield 129, 3, 0, 11, 61, 0, 0),
  (37, .iload 4, 2, 0, 0, 0, 0, 0),
  (39, .iaload, 1, 0, 30, 0, 0, 0),
  (40, .ifCond .lt 6, 3, 0, 1, 0, 0, 0),
  (43, .goto 95, 3, 0, 49, 0, 0, 0),
  (46, .iconst 0, 1, 0, 0, 0, 0, 0),
  (47, .istore 5, 2, 0, 0, 0, 0, 0),
  (49, .iconst 0, 1, 0, 0, 0, 0, 0),
  (50, .istore 6, 2, 0, 0, 0, 0, 0),
  (52, .iload 6, 2, 32, 0, 0, 0, 0),
  (54, .aload_n 0, 1, 0, 0, 0, 0, 0),
  (55, .getfield 13, 3, 0, 11, 10, 0, 0),
  (58, .iconst 0, 1, 0, 0, 0, 0, 0),
  (59, .iaload, 1, 0, 30, 0, 0, 0),
  (60, .if_icmp .ge 57, 3, 0, 29, 0, 0, 0),
  (63, .iload_n 1, 1, 0, 0, 0, 0, 0),
  (64, .iload 6, 2, 0, 0, 0, 0, 0),
  (66, .ishr, 1, 0, 0, 0, 0, 0),
  (67, .iconst 1, 1, 0, 0, 0, 1, 0),
  (68, .iand, 1, 0, 0, 0, 0, 0),
  (69, .iconst 1, 1, 0, 0, 0, 1, 0),
  (70, .if_icmp .ne 20, 3, 0, 8, 0, 0, 0),
  (73, .aload_n 0, 1, 0, 0, 0, 0, 0),
  (74, .iload 4, 2, 0, 0, 0, 0, 0),
  (76, .aload_n 0, 1, 0, 0, 0, 0, 0),
  (77, .iload 6, 2, 0, 0, 0, 0, 0),
  (79, .iload 4, 2, 0, 0, 0, 0, 0),
  (81, .invokevirtual 366, 3, 0, 44, 19, 0, 0),
  (84, .invokevirtual 499, 3, 0, 94, 19, 0, 0),
  (87, .goto 4, 3, 0, 53, 1, 0, 0),
  (90, .iconst (-1), 1, 0, 0, 0, -1, 0),
  (91, .istore 7, 2, 54, 0, 0, 0, 0),
  (93, .iload 5, 2, 0, 0, 0, 0, 0),
  (95, .iload 7, 2, 0, 0, 0, 0, 0),
  (97, .ifCond .ge 7, 3, 0, 2, 0, 0, 0),
  (100, .iconst 0, 1, 0, 0, 0, 0, 0),
  (101, .goto 7, 3, 0, 3, 0, 0, 0),
  (104, .iconst 1, 1, 0, 0, 0, 1, 0),
  (105, .iload 7, 2, 0, 0, 0, 0, 0),
  (107, .ishl, 1, 0, 0, 0, 0, 0),
  (108, .ior, 1, 0, 0, 0, 0, 0),
  (109, .istore 5, 2, 0, 0, 0, 0, 0),
  (111, .iinc 6 1, 3, 0, 0, 0, 1, 0),
  (114, .goto (-62), 3, 0, 31, 1, 0, 0),
  (117, .iload 5, 2, 0, 0, 0, 0, 0),
  (119, .invokestatic 439, 3, 0, 3, 17, 0, 0),
  (122, .iload_n 3, 1, 0, 0, 0, 0, 0),
  (123, .if_icmp .gt 6, 3, 0, 1, 0, 0, 0),
  (126, .goto 12, 3, 0, 5, 0, 0, 0),
  (129, .iload 5, 2, 0, 0, 0, 0, 0),
  (131, .invokestatic 439, 3, 0, 3, 17, 0, 0),
  (134, .istore_n 3, 1, 0, 0, 0, 0, 0),
  (135, .iload 4, 2, 0, 0, 0, 0, 0),
  (137, .istore_n 2, 1, 0, 0, 0, 0, 0),
  (138, .iinc 4 1, 3, 0, 0, 0, 1, 0),
  (141, .goto (-119), 3, 0, 15, 1, 0, 0),
  (144, .iload_n 2, 1, 0, 0, 0, 0, 0),
  (145, .ireturn, 1, 0, 0, 0, 0, 0)]
def lM95 (q : Nat) : Nat := cond (Nat.ble q 15) (31) (cond (Nat.ble q 31) (127) (127))
def kM96 : List aE := [(0, .aload_n 0, 1, 0, 0, 0, 0, 0),
  (1, .iconst 0, 1, 0, 0, 0, 0, 0),
  (2, .putfield 135, 3, 0, 11, 0, 0, 0),
  (5, .aload_n 0, 1, 0, 0, 0, 0, 0),
  (6, .getfield 105, 3, 0, 11, 45, 0, 0),
  (9, .iconst 0, 1, 0, 0, 0, 0, 0),
  (10, .aload_n 0, 1, 0, 0, 0, 0, 0),
  (11, .getfield 108, 3, 0, 11, 46, 0, 0),
  (14, .iconst 0, 1, 0, 0, 0, 0, 0),
  (15, .invokestatic 384, 3, 0, 35, 4, 0, 0),
  (18, .iconst 0, 1, 0, 0, 0, 0, 0),
  (19, .istore_n 1, 1, 0, 0, 0, 0, 0),
  (20, .aload_n 0, 1, 0, 0, 0, 0, 0),
  (21, .invokevirtual 469, 3, 0, 77, 1, 0, 0),
  (24, .aload_n 0, 1, 15, 0, 0, 0, 0),
  (25, .getfield 453, 3, 0, 11, 56, 0, 0),
  (28, .lconst 0, 1, 0, 0, 0, 0, 0),
  (29, .lcmp, 1, 0, 0, 0, 0, 0),
  (30, .ifCond .le 83, 3, 0, 46, 0, 0, 0),
  (33, .aload_n 0, 1, 0, 0, 0, 0, 0),
  (34, .getfield 105, 3, 0, 11, 45, 0, 0),
  (37, .iconst 1, 1, 0, 0, 0, 1, 0),
  (38, .iaload, 1, 0, 30, 0, 0, 0),
  (39, .istore_n 2, 1, 0, 0, 0, 0, 0),
  (40, .iload_n 2, 1, 25, 0, 0, 0, 0),
  (41, .aload_n 0, 1, 0, 0, 0, 0, 0),
  (42, .getfield 13, 3, 0, 11, 10, 0, 0),
  (45, .iconst 2, 1, 0, 0, 0, 2, 0),
  (46, .iaload, 1, 0, 30, 0, 0, 0),
  (47, .if_icmp .ge 21, 3, 0, 10, 0, 0, 0),
  (50, .aload_n 0, 1, 0, 0, 0, 0, 0),
  (51, .getfield 120, 3, 0, 11, 54, 0, 0),
  (54, .iload_n 2, 1, 0, 0, 0, 0, 0),
  (55, .aload_n 0, 1, 0, 0, 0, 0, 0),
  (56, .getfield 123, 3, 0, 11, 55, 0, 0),
  (59, .iload_n 2, 1, 0, 0, 0, 0, 0),
  (60, .iaload, 1, 0, 30, 0, 0, 0),
  (61, .iastore, 1, 0, 30, 0, 0, 0),
  (62, .iinc 2 1, 3, 0, 0, 0, 1, 0),
  (65, .goto (-25), 3, 0, 24, 1, 0, 0),
  (68, .aload_n 0, 1, 0, 0, 0, 0, 0),
  (69, .getfield 105, 3, 0, 11, 45, 0, 0),
  (72, .iconst 1, 1, 0, 0, 0, 1, 0),
  (73, .iaload, 1, 0, 30, 0, 0, 0),
  (74, .istore_n 2, 1, 0, 0, 0, 0, 0),
  (75, .iload_n 2, 1, 0, 0, 0, 0, 0),
  (76, .istore_n 3, 1, 0, 0, 0, 0, 0),
  (77, .iload_n 3, 1, 48, 0, 0, 0, 0),
  (78, .aload_n 0, 1, 0, 0, 0, 0, 0),
  (79, .getfield 13, 3, 0, 11, 10, 0, 0),
  (82, .iconst 2, 1, 0, 0, 0, 2, 0),
  (83, .iaload, 1, 0, 30, 0, 0, 0),
  (84, .if_icmp .ge 19, 3, 0, 8, 0, 0, 0),
  (87, .aload_n 0, 1, 0, 0, 0, 0, 0),
  (88, .aload_n 0, 1, 0, 0, 0, 0, 0),
  (89, .getfield 120, 3, 0, 11, 54, 0, 0),
  (92, .iload_n 3, 1, 0, 0, 0, 0, 0),
  (93, .iaload, 1, 0, 30, 0, 0, 0),
  (94, .invokevirtual 409, 3, 0, 58, 2, 0, 0),
  (97, .iinc 3 1, 3, 0, 0, 0, 1, 0),
  (100, .goto (-23), 3, 0, 47, 1, 0, 0),
  (103, .iinc 1 1, 3, 0, 0, 0, 1, 0),
  (106, .aload_n 0, 1, 0, 0, 0, 0, 0),
  (107, .invokevirtual 469, 3, 0, 77, 1, 0, 0),
  (110, .goto (-86), 3, 0, 14, 1, 0, 0),
  (113, .aload_n 0, 1, 0, 0, 0, 0, 0),
  (114, .getfield 108, 3, 0, 11, 46, 0, 0),
  (117, .iconst 0, 1, 0, 0, 0, 0, 0),
  (118, .aload_n 0, 1, 0, 0, 0, 0, 0),
  (119, .getfield 105, 3, 0, 11, 45, 0, 0),
  (122, .iconst 0, 1, 0, 0, 0, 0, 0),
  (123, .invokestatic 384, 3, 0, 35, 4, 0, 0),
  (126, .iload_n 1, 1, 0, 0, 0, 0, 0),
  (127, .ireturn, 1, 0, 0, 0, 0, 0)]
def lM96 (q : Nat) : Nat := cond (Nat.ble q 14) (3) (cond (Nat.ble q 24) (7) (11))
def kM97 : List aE := [(0, .iload_n 3, 1, 0, 0, 0, 0, 0),
  (1, .iconst 1, 1, 0, 0, 0, 1, 0),
  (2, .if_icmp .ne 17, 3, 0, 7, 0, 0, 0),
  (5, .iload 4, 2, 0, 0, 0, 0, 0),
  (7, .iconst 1, 1, 0, 0, 0, 1, 0),
  (8, .if_icmp .ne 7, 3, 0, 2, 0, 0, 0),
  (11, .iload_n 1, 1, 0, 0, 0, 0, 0),
  (12, .goto 18, 3, 0, 8, 0, 0, 0),
  (15, .iload_n 0, 1, 0, 0, 0, 0, 0),
  (16, .goto 14, 3, 0, 6, 0, 0, 0),
  (19, .iload 4, 2, 0, 0, 0, 0, 0),
  (21, .iconst 1, 1, 0, 0, 0, 1, 0),
  (22, .if_icmp .ne 7, 3, 0, 2, 0, 0, 0),
  (25, .iconst 0, 1, 0, 0, 0, 0, 0),
  (26, .goto 4, 3, 0, 1, 0, 0, 0),
  (29, .iload_n 2, 1, 0, 0, 0, 0, 0),
  (30, .ireturn, 1, 0, 0, 0, 0, 0)]
def lM97 (q : Nat) : Nat := 0
def kM98 : List aE := [(0, .aload_n 0, 1, 0, 0, 0, 0, 0),
  (1, .iload_n 1, 1, 0, 0, 0, 0, 0),
  (2, .iconst 0, 1, 0, 0, 0, 0, 0),
  (3, .bipush 9, 2, 0, 0, 0, 9, 0),
  (5, .invokestatic 269, 3, 0, 1, 19, 0, 0),
  (8, .ifCond .eq 33, 3, 0, 15, 0, 0, 0),
  (11, .iload_n 2, 1, 0, 0, 0, 0, 0),
  (12, .iconst 0, 1, 0, 0, 0, 0, 0),
  (13, .bipush 9, 2, 0, 0, 0, 9, 0),
  (15, .invokestatic 269, 3, 0, 1, 19, 0, 0),
  (18, .ifCond .eq 23, 3, 0, 10, 0, 0, 0),
  (21, .iload_n 3, 1, 0, 0, 0, 0, 0),
  (22, .iconst 0, 1, 0, 0, 0, 0, 0),
  (23, .bipush 9, 2, 0, 0, 0, 9, 0),
  (25, .invokestatic 269, 3, 0, 1, 19, 0, 0),
  (28, .ifCond .eq 13, 3, 0, 5, 0, 0, 0),
  (31, .iload 4, 2, 0, 0, 0, 0, 0),
  (33, .iconst (-1), 1, 0, 0, 0, -1, 0),
  (34, .if_icmp .lt 7, 3, 0, 2, 0, 0, 0),
  (37, .iconst 0, 1, 0, 0, 0, 0, 0),
  (38, .goto 4, 3, 0, 1, 0, 0, 0),
  (41, .iconst 1, 1, 0, 0, 0, 1, 0),
  (42, .putfield 135, 3, 0, 11, 0, 0, 0),
  (45, .aload_n 0, 1, 0, 0, 0, 0, 0),
  (46, .getfield 135, 3, 0, 11, 0, 0, 0),
  (49, .iconst 1, 1, 0, 0, 0, 1, 0),
  (50, .if_icmp .ne 5, 3, 0, 2, 0, 0, 0),
  (53, .iconst 0, 1, 0, 0, 0, 0, 0),
  (54, .ireturn, 1, 0, 0, 0, 0, 0),
  (55, .iconst 0, 1, 0, 0, 0, 0, 0),
  (56, .istore 5, 2, 0, 0, 0, 0, 0),
  (58, .iconst 0, 1, 0, 0, 0, 0, 0),
  (59, .istore 6, 2, 0, 0, 0, 0, 0),
  (61, .iload 6, 2, 34, 0, 0, 0, 0),
  (63, .iconst 4, 1, 0, 0, 0, 4, 0),
  (64, .if_icmp .ge 87, 3, 0, 47, 0, 0, 0),
  (67, .iload 6, 2, 0, 0, 0, 0, 0),
  (69, .iconst 2, 1, 0, 0, 0, 2, 0),
  (70, .idiv, 1, 0, 0, 0, 0, 0),
  (71, .istore 7, 2, 0, 0, 0, 0, 0),
  (73, .iload 6, 2, 0, 0, 0, 0, 0),
  (75, .iconst 2, 1, 0, 0, 0, 2, 0),
  (76, .irem, 1, 0, 0, 0, 0, 0),
  (77, .istore 8, 2, 0, 0, 0, 0, 0),
  (79, .iload_n 1, 1, 0, 0, 0, 0, 0),
  (80, .iload_n 2, 1, 0, 0, 0, 0, 0),
  (81, .iload_n 3, 1, 0, 0, 0, 0, 0),
  (82, .iconst 1, 1, 0, 0, 0, 1, 0),
  (83, .iload 7, 2, 0, 0, 0, 0, 0),
  (85, .isub, 1, 0, 0, 0, 0, 0),
  (86, .iload 8, 2, 0, 0, 0, 0, 0),
  (88, .invokestatic 502, 3, 0, 97, 21, 0, 0),
  (91, .iload_n 1, 1, 0, 0, 0, 0, 0),
  (92, .iload_n 2, 1, 0, 0, 0, 0, 0),
  (93, .iload_n 3, 1, 0, 0, 0, 0, 0),
  (94, .iload 7, 2, 0, 0, 0, 0, 0),
  (96, .iload 8, 2, 0, 0, 0, 0, 0),
  (98, .invokestatic 502, 3, 0, 97, 21, 0, 0),
  (101, .if_icmp .gt 44, 3, 0, 22, 0, 0, 0),
  (104, .iload_n 1, 1, 0, 0, 0, 0, 0),
  (105, .iload_n 2, 1, 0, 0, 0, 0, 0),
  (106, .iload_n 3, 1, 0, 0, 0, 0, 0),
  (107, .iconst 1, 1, 0, 0, 0, 1, 0),
  (108, .iload 8, 2, 0, 0, 0, 0, 0),
  (110, .isub, 1, 0, 0, 0, 0, 0),
  (111, .iload 7, 2, 0, 0, 0, 0, 0),
  (113, .invokestatic 502, 3, 0, 97, 21, 0, 0),
  (116, .iload_n 1, 1, 0, 0, 0, 0, 0),
  (117, .iload_n 2, 1, 0, 0, 0, 0, 0),
  (118, .iload_n 3, 1, 0, 0, 0, 0, 0),
  (119, .iload 8, 2, 0, 0, 0, 0, 0),
  (121, .iload 7, 2, 0, 0, 0, 0, 0),
  (123, .invokestatic 502, 3, 0, 97, 21, 0, 0),
  (126, .if_icmp .le 6, 3, 0, 1, 0, 0, 0),
  (129, .goto 16, 3, 0, 6, 0, 0, 0),
  (132, .iload 5, 2, 0, 0, 0, 0, 0),
  (134, .iload 4, 2, 0, 0, 0, 0, 0),
  (136, .if_icmp .ne 6, 3, 0, 2, 0, 0, 0),
  (139, .iload 6, 2, 0, 0, 0, 0, 0),
  (141, .ireturn, 1, 0, 0, 0, 0, 0),
  (142, .iinc 5 1, 3, 0, 0, 0, 1, 0),
  (145, .iinc 6 1, 3, 0, 0, 0, 1, 0),
  (148, .goto (-87), 3, 0, 33, 1, 0, 0),
  (151, .aload_n 0, 1, 0, 0, 0, 0, 0),
  (152, .iload 4, 2, 0, 0, 0, 0, 0),
  (154, .iconst (-1), 1, 0, 0, 0, -1, 0),
  (155, .if_icmp .ne 7, 3, 0, 2, 0, 0, 0),
  (158, .iconst 0, 1, 0, 0, 0, 0, 0),
  (159, .goto 4, 3, 0, 1, 0, 0, 0),
  (162, .iconst 1, 1, 0, 0, 0, 1, 0),
  (163, .putfield 135, 3, 0, 11, 0, 0, 0),
  (166, .iload 4, 2, 0, 0, 0, 0, 0),
  (168, .iconst (-1), 1, 0, 0, 0, -1, 0),
  (169, .if_icmp .ne 8, 3, 0, 2, 0, 0, 0),
  (172, .iload 5, 2, 0, 0, 0, 0, 0),
  (174, .goto 4, 3, 0, 1, 0, 0, 0),
  (177, .iconst 0, 1, 0, 0, 0, 0, 0),
  (178, .ireturn, 1, 0, 0, 0, 0, 0)]
def lM98 (q : Nat) : Nat := 127
def kM99 : List aE := [(0, .aload_n 0, 1, 0, 0, 0, 0, 0),
  (1, .aload_n 0, 1, 0, 0, 0, 0, 0),
  (2, .getfield 506, 3, 0, 11, 62, 0, 0),
  (5, .ldc2_w 509, 3, 0, 0, 0, 0, 1103515245),
  (8, .lmul, 1, 0, 0, 0, 0, 0),
  (9, .ldc2_w 511, 3, 0, 0, 0, 0, 12345),
  (12, .ladd, 1, 0, 0, 0, 0, 0),
  (13, .ldc2_w 513, 3, 0, 0, 0, 0, 2147483648),
  (16, .lrem, 1, 0, 0, 0, 0, 0),
  (17, .putfield 506, 3, 0, 11, 62, 0, 0),
  (20, .aload_n 0, 1, 0, 0, 0, 0, 0),
  (21, .getfield 506, 3, 0, 11, 62, 0, 0),
  (24, .ldc2_w 515, 3, 0, 0, 0, 0, 65536),
  (27, .ldiv, 1, 0, 0, 0, 0, 0),
  (28, .iload_n 1, 1, 0, 0, 0, 0, 0),
  (29, .i2l, 1, 0, 0, 0, 0, 0),
  (30, .lrem, 1, 0, 0, 0, 0, 0),
  (31, .l2i, 1, 0, 0, 0, 0, 0),
  (32, .ireturn, 1, 0, 0, 0, 0, 0)]
def lM99 (q : Nat) : Nat := 0
def kM100 : List aE := [(0, .aload_n 0, 1, 0, 0, 0, 0, 0),
  (1, .aload_n 0, 1, 0, 0, 0, 0, 0),
  (2, .getfield 105, 3, 0, 11, 45, 0, 0),
  (5, .iconst 1, 1, 0, 0, 0, 1, 0),
  (6, .iaload, 1, 0, 30, 0, 0, 0),
  (7, .aload_n 0, 1, 0, 0, 0, 0, 0),
  (8, .aload_n 0, 1, 0, 0, 0, 0, 0),
  (9, .getfield 105, 3, 0, 11, 45, 0, 0),
  (12, .iconst 0, 1, 0, 0, 0, 0, 0),
  (13, .iaload, 1, 0, 30, 0, 0, 0),
  (14, .aload_n 0, 1, 0, 0, 0, 0, 0),
  (15, .getfield 105, 3, 0, 11, 45, 0, 0),
  (18, .iconst 1, 1, 0, 0, 0, 1, 0),
  (19, .iaload, 1, 0, 30, 0, 0, 0),
  (20, .invokevirtual 366, 3, 0, 44, 19, 0, 0),
  (23, .aload_n 0, 1, 0, 0, 0, 0, 0),
  (24, .aload_n 0, 1, 0, 0, 0, 0, 0),
  (25, .getfield 105, 3, 0, 11, 45, 0, 0),
  (28, .iconst 1, 1, 0, 0, 0, 1, 0),
  (29, .iaload, 1, 0, 30, 0, 0, 0),
  (30, .invokevirtual 369, 3, 0, 46, 18, 0, 0),
  (33, .invokevirtual 436, 3, 0, 48, 20, 0, 0),
  (36, .istore_n 1, 1, 0, 0, 0, 0, 0),
  (37, .iload_n 1, 1, 0, 0, 0, 0, 0),
  (38, .ifCond .ne 26, 3, 0, 15, 0, 0, 0),
  (41, .aload_n 0, 1, 0, 0, 0, 0, 0),
  (42, .getfield 105, 3, 0, 11, 45, 0, 0),
  (45, .iconst 3, 1, 0, 0, 0, 3, 0),
  (46, .iaload, 1, 0, 30, 0, 0, 0),
  (47, .ifCond .le 15, 3, 0, 8, 0, 0, 0),
  (50, .aload_n 0, 1, 0, 0, 0, 0, 0),
  (51, .aload_n 0, 1, 0, 0, 0, 0, 0),
  (52, .getfield 105, 3, 0, 11, 45, 0, 0),
  (55, .iconst 3, 1, 0, 0, 0, 3, 0),
  (56, .iaload, 1, 0, 30, 0, 0, 0),
  (57, .iconst 1, 1, 0, 0, 0, 1, 0),
  (58, .isub, 1, 0, 0, 0, 0, 0),
  (59, .invokevirtual 415, 3, 0, 59, 2, 0, 0),
  (62, .iconst 0, 1, 0, 0, 0, 0, 0),
  (63, .ireturn, 1, 0, 1, 0, 0, 0),
  (64, .aload_n 0, 1, 0, 0, 0, 0, 0),
  (65, .iload_n 1, 1, 0, 0, 0, 0, 0),
  (66, .invokevirtual 517, 3, 0, 99, 18, 0, 0),
  (69, .istore_n 2, 1, 0, 0, 0, 0, 0),
  (70, .iconst 0, 1, 0, 0, 0, 0, 0),
  (71, .istore_n 3, 1, 0, 0, 0, 0, 0),
  (72, .aload_n 0, 1, 0, 0, 0, 0, 0),
  (73, .getfield 26, 3, 0, 11, 14, 0, 0),
  (76, .iconst 0, 1, 0, 0, 0, 0, 0),
  (77, .iaload, 1, 0, 30, 0, 0, 0),
  (78, .aload_n 0, 1, 0, 0, 0, 0, 0),
  (79, .getfield 105, 3, 0, 11, 45, 0, 0),
  (82, .iconst 1, 1, 0, 0, 0, 1, 0),
  (83, .iaload, 1, 0, 30, 0, 0, 0),
  (84, .if_icmp .ne 11, 3, 0, 4, 0, 0, 0),
  (87, .aload_n 0, 1, 0, 0, 0, 0, 0),
  (88, .iconst 0, 1, 0, 0, 0, 0, 0),
  (89, .invokevirtual 381, 3, 0, 47, 18, 0, 0),
  (92, .goto 4, 3, 0, 1, 0, 0, 0),
  (95, .iconst 0, 1, 0, 0, 0, 0, 0),
  (96, .istore 4, 2, 0, 0, 0, 0, 0),
  (98, .iload 4, 2, 62, 0, 0, 0, 0),
  (100, .iload_n 2, 1, 0, 0, 0, 0, 0),
  (101, .if_icmp .gt 38, 3, 0, 19, 0, 0, 0),
  (104, .iinc 3 1, 3, 0, 0, 0, 1, 0),
  (107, .iload 4, 2, 0, 0, 0, 0, 0),
  (109, .aload_n 0, 1, 0, 0, 0, 0, 0),
  (110, .getfield 26, 3, 0, 11, 14, 0, 0),
  (113, .iload_n 3, 1, 0, 0, 0, 0, 0),
  (114, .iaload, 1, 0, 30, 0, 0, 0),
  (115, .aload_n 0, 1, 0, 0, 0, 0, 0),
  (116, .getfield 105, 3, 0, 11, 45, 0, 0),
  (119, .iconst 1, 1, 0, 0, 0, 1, 0),
  (120, .iaload, 1, 0, 30, 0, 0, 0),
  (121, .if_icmp .ne 11, 3, 0, 4, 0, 0, 0),
  (124, .aload_n 0, 1, 0, 0, 0, 0, 0),
  (125, .iload_n 3, 1, 0, 0, 0, 0, 0),
  (126, .invokevirtual 381, 3, 0, 47, 18, 0, 0),
  (129, .goto 4, 3, 0, 1, 0, 0, 0),
  (132, .iconst 0, 1, 0, 0, 0, 0, 0),
  (133, .iadd, 1, 0, 0, 0, 0, 0),
  (134, .istore 4, 2, 0, 0, 0, 0, 0),
  (136, .goto (-38), 3, 0, 61, 1, 0, 0),
  (139, .aload_n 0, 1, 0, 0, 0, 0, 0),
  (140, .iload_n 3, 1, 0, 0, 0, 0, 0),
  (141, .invokevirtual 409, 3, 0, 58, 2, 0, 0),
  (144, .aload_n 0, 1, 0, 0, 0, 0, 0),
  (145, .getfield 105, 3, 0, 11, 45, 0, 0),
  (148, .iconst 1, 1, 0, 0, 0, 1, 0),
  (149, .iaload, 1, 0, 30, 0, 0, 0),
  (150, .ifCond .ne 7, 3, 0, 2, 0, 0, 0),
  (153, .iconst 1, 1, 0, 0, 0, 1, 0),
  (154, .goto 4, 3, 0, 1, 0, 0, 0),
  (157, .iconst 0, 1, 0, 0, 0, 0, 0),
  (158, .ireturn, 1, 0, 1, 0, 0, 0)]
def lM100 (q : Nat) : Nat := 29
def kM101 : List aE := [(0, .aload_n 0, 1, 0, 0, 0, 0, 0),
  (1, .iconst 0, 1, 0, 0, 0, 0, 0),
  (2, .putfield 135, 3, 0, 11, 0, 0, 0),
  (5, .iload_n 1, 1, 0, 0, 0, 0, 0),
  (6, .iconst 0, 1, 0, 0, 0, 0, 0),
  (7, .sipush 9999, 3, 0, 0, 0, 9999, 0),
  (10, .invokestatic 269, 3, 0, 1, 19, 0, 0),
  (13, .ifCond .eq 22, 3, 0, 10, 0, 0, 0),
  (16, .iload_n 2, 1, 0, 0, 0, 0, 0),
  (17, .iconst 1, 1, 0, 0, 0, 1, 0),
  (18, .bipush 99, 2, 0, 0, 0, 99, 0),
  (20, .invokestatic 269, 3, 0, 1, 19, 0, 0),
  (23, .ifCond .eq 12, 3, 0, 5, 0, 0, 0),
  (26, .iload_n 3, 1, 0, 0, 0, 0, 0),
  (27, .iconst 0, 1, 0, 0, 0, 0, 0),
  (28, .iconst 2, 1, 0, 0, 0, 2, 0),
  (29, .invokestatic 269, 3, 0, 1, 19, 0, 0),
  (32, .ifCond .ne 5, 3, 0, 2, 0, 0, 0),
  (35, .iconst (-1), 1, 0, 0, 0, -1, 0),
  (36, .ireturn, 1, 0, 0, 0, 0, 0),
  (37, .aload_n 0, 1, 0, 0, 0, 0, 0),
  (38, .iload_n 1, 1, 0, 0, 0, 0, 0),
  (39, .i2l, 1, 0, 0, 0, 0, 0),
  (40, .putfield 506, 3, 0, 11, 62, 0, 0),
  (43, .aload_n 0, 1, 0, 0, 0, 0, 0),
  (44, .getfield 105, 3, 0, 11, 45, 0, 0),
  (47, .iconst 0, 1, 0, 0, 0, 0, 0),
  (48, .aload_n 0, 1, 0, 0, 0, 0, 0),
  (49, .getfield 108, 3, 0, 11, 46, 0, 0),
  (52, .iconst 0, 1, 0, 0, 0, 0, 0),
  (53, .invokestatic 384, 3, 0, 35, 4, 0, 0),
  (56, .iconst 0, 1, 0, 0, 0, 0, 0),
  (57, .istore 4, 2, 0, 0, 0, 0, 0),
  (59, .iconst 0, 1, 0, 0, 0, 0, 0),
  (60, .istore 5, 2, 0, 0, 0, 0, 0),
  (62, .iload 5, 2, 36, 0, 0, 0, 0),
  (64, .iload_n 2, 1, 0, 0, 0, 0, 0),
  (65, .if_icmp .ge 26, 3, 0, 11, 0, 0, 0),
  (68, .iload 4, 2, 0, 0, 0, 0, 0),
  (70, .aload_n 0, 1, 0, 0, 0, 0, 0),
  (71, .invokevirtual 520, 3, 0, 100, 17, 0, 0),
  (74, .ifCond .eq 7, 3, 0, 2, 0, 0, 0),
  (77, .iconst 1, 1, 0, 0, 0, 1, 0),
  (78, .goto 4, 3, 0, 1, 0, 0, 0),
  (81, .iconst 0, 1, 0, 0, 0, 0, 0),
  (82, .iadd, 1, 0, 0, 0, 0, 0),
  (83, .istore 4, 2, 0, 0, 0, 0, 0),
  (85, .iinc 5 1, 3, 0, 0, 0, 1, 0),
  (88, .goto (-26), 3, 0, 35, 1, 0, 0),
  (91, .aload_n 0, 1, 0, 0, 0, 0, 0),
  (92, .getfield 105, 3, 0, 11, 45, 0, 0),
  (95, .iconst 2, 1, 0, 0, 0, 2, 0),
  (96, .iaload, 1, 0, 30, 0, 0, 0),
  (97, .istore 5, 2, 0, 0, 0, 0, 0),
  (99, .aload_n 0, 1, 0, 0, 0, 0, 0),
  (100, .aload_n 0, 1, 0, 0, 0, 0, 0),
  (101, .invokevirtual 487, 3, 0, 68, 17, 0, 0),
  (104, .invokevirtual 490, 3, 0, 67, 18, 0, 0),
  (107, .istore 6, 2, 0, 0, 0, 0, 0),
  (109, .aload_n 0, 1, 0, 0, 0, 0, 0),
  (110, .getfield 108, 3, 0, 11, 46, 0, 0),
  (113, .iconst 0, 1, 0, 0, 0, 0, 0),
  (114, .aload_n 0, 1, 0, 0, 0, 0, 0),
  (115, .getfield 105, 3, 0, 11, 45, 0, 0),
  (118, .iconst 0, 1, 0, 0, 0, 0, 0),
  (119, .invokestatic 384, 3, 0, 35, 4, 0, 0),
  (122, .iload_n 3, 1, 0, 0, 0, 0, 0),
  (123, .ifCond .ne 8, 3, 0, 2, 0, 0, 0),
  (126, .iload 4, 2, 0, 0, 0, 0, 0),
  (128, .goto 22, 3, 0, 11, 0, 0, 0),
  (131, .iload_n 3, 1, 0, 0, 0, 0, 0),
  (132, .iconst 1, 1, 0, 0, 0, 1, 0),
  (133, .if_icmp .ne 15, 3, 0, 7, 0, 0, 0),
  (136, .iload 5, 2, 0, 0, 0, 0, 0),
  (138, .aload_n 0, 1, 0, 0, 0, 0, 0),
  (139, .getfield 105, 3, 0, 11, 45, 0, 0),
  (142, .iconst 2, 1, 0, 0, 0, 2, 0),
  (143, .iaload, 1, 0, 30, 0, 0, 0),
  (144, .isub, 1, 0, 0, 0, 0, 0),
  (145, .goto 5, 3, 0, 1, 0, 0, 0),
  (148, .iload 6, 2, 0, 0, 0, 0, 0),
  (150, .ireturn, 1, 0, 0, 0, 0, 0)]
def lM101 (q : Nat) : Nat := 61
def kM102 : List aE := [(0, .aload_n 0, 1, 0, 0, 0, 0, 0),
  (1, .iconst 0, 1, 0, 0, 0, 0, 0),
  (2, .putfield 135, 3, 0, 11, 0, 0, 0),
  (5, .iload_n 1, 1, 0, 0, 0, 0, 0),
  (6, .iconst 0, 1, 0, 0, 0, 0, 0),
  (7, .iconst 3, 1, 0, 0, 0, 3, 0),
  (8, .invokestatic 269, 3, 0, 1, 19, 0, 0),
  (11, .ifCond .eq 16, 3, 0, 7, 0, 0, 0),
  (14, .iload_n 2, 1, 0, 0, 0, 0, 0),
  (15, .ifCond .eq 14, 3, 0, 17, 1, 0, 0),
  (18, .aload_n 0, 1, 0, 0, 0, 0, 0),
  (19, .getfield 117, 3, 0, 11, 49, 0, 0),
  (22, .iload_n 1, 1, 0, 0, 0, 0, 0),
  (23, .baload, 1, 0, 33, 0, 0, 0),
  (24, .ifCond .ne 5, 3, 0, 17, 1, 0, 0),
  (27, .iconst 0, 1, 0, 0, 0, 0, 0),
  (28, .ireturn, 1, 0, 1, 0, 0, 0),
  (29, .aload_n 0, 1, 18, 0, 0, 0, 0),
  (30, .getfield 117, 3, 0, 11, 49, 0, 0),
  (33, .iload_n 1, 1, 0, 0, 0, 0, 0),
  (34, .iconst 1, 1, 0, 0, 0, 1, 0),
  (35, .bastore, 1, 0, 33, 0, 0, 0),
  (36, .iload_n 2, 1, 0, 0, 0, 0, 0),
  (37, .ifCond .eq 9, 3, 0, 4, 0, 0, 0),
  (40, .iconst 1, 1, 0, 0, 0, 1, 0),
  (41, .iload_n 1, 1, 0, 0, 0, 0, 0),
  (42, .iadd, 1, 0, 0, 0, 0, 0),
  (43, .goto 4, 3, 0, 1, 0, 0, 0),
  (46, .iconst 0, 1, 0, 0, 0, 0, 0),
  (47, .istore_n 3, 1, 0, 0, 0, 0, 0),
  (48, .iload_n 2, 1, 0, 0, 0, 0, 0),
  (49, .ifCond .eq 7, 3, 0, 2, 0, 0, 0),
  (52, .iconst 0, 1, 0, 0, 0, 0, 0),
  (53, .goto 6, 3, 0, 37, 1, 0, 0),
  (56, .iconst 1, 1, 0, 0, 0, 1, 0),
  (57, .iload_n 1, 1, 0, 0, 0, 0, 0),
  (58, .iadd, 1, 0, 0, 0, 0, 0),
  (59, .istore 4, 2, 38, 0, 0, 0, 0),
  (61, .aload_n 0, 1, 0, 0, 0, 0, 0),
  (62, .iload_n 3, 1, 0, 0, 0, 0, 0),
  (63, .iload 4, 2, 0, 0, 0, 0, 0),
  (65, .invokevirtual 349, 3, 0, 37, 3, 0, 0),
  (68, .aload_n 0, 1, 0, 0, 0, 0, 0),
  (69, .iload_n 3, 1, 0, 0, 0, 0, 0),
  (70, .iload 4, 2, 0, 0, 0, 0, 0),
  (72, .invokevirtual 523, 3, 0, 38, 3, 0, 0),
  (75, .iload_n 2, 1, 0, 0, 0, 0, 0),
  (76, .ifCond .eq 27, 3, 0, 13, 0, 0, 0),
  (79, .aload_n 0, 1, 0, 0, 0, 0, 0),
  (80, .getfield 111, 3, 0, 11, 47, 0, 0),
  (83, .bipush 60, 2, 0, 0, 0, 60, 0),
  (85, .iload_n 1, 1, 0, 0, 0, 0, 0),
  (86, .imul, 1, 0, 0, 0, 0, 0),
  (87, .aload_n 0, 1, 0, 0, 0, 0, 0),
  (88, .getfield 105, 3, 0, 11, 45, 0, 0),
  (91, .iconst 0, 1, 0, 0, 0, 0, 0),
  (92, .invokestatic 384, 3, 0, 35, 4, 0, 0),
  (95, .aload_n 0, 1, 0, 0, 0, 0, 0),
  (96, .iconst 0, 1, 0, 0, 0, 0, 0),
  (97, .putfield 343, 3, 0, 11, 50, 0, 0),
  (100, .goto 19, 3, 0, 9, 0, 0, 0),
  (103, .aload_n 0, 1, 0, 0, 0, 0, 0),
  (104, .getfield 105, 3, 0, 11, 45, 0, 0),
  (107, .iconst 0, 1, 0, 0, 0, 0, 0),
  (108, .aload_n 0, 1, 0, 0, 0, 0, 0),
  (109, .getfield 111, 3, 0, 11, 47, 0, 0),
  (112, .bipush 60, 2, 0, 0, 0, 60, 0),
  (114, .iload_n 1, 1, 0, 0, 0, 0, 0),
  (115, .imul, 1, 0, 0, 0, 0, 0),
  (116, .invokestatic 384, 3, 0, 35, 4, 0, 0),
  (119, .iconst 1, 1, 0, 0, 0, 1, 0),
  (120, .ireturn, 1, 0, 1, 0, 0, 0)]
def lM102 (q : Nat) : Nat := cond (Nat.ble q 17) (7) (15)
def kM103 : List aE := [(0, .iconst 0, 1, 0, 0, 0, 0, 0),
  (1, .istore_n 1, 1, 0, 0, 0, 0, 0),
  (2, .iconst 0, 1, 0, 0, 0, 0, 0),
  (3, .istore_n 2, 1, 0, 0, 0, 0, 0),
  (4, .iload_n 2, 1, 5, 0, 0, 0, 0),
  (5, .aload_n 0, 1, 0, 0, 0, 0, 0),
  (6, .getfield 13, 3, 0, 11, 10, 0, 0),
  (9, .iconst 1, 1, 0, 0, 0, 1, 0),
  (10, .iaload, 1, 0, 30, 0, 0, 0),
  (11, .if_icmp .ge 21, 3, 0, 11, 0, 0, 0),
  (14, .iload_n 1, 1, 0, 0, 0, 0, 0),
  (15, .aload_n 0, 1, 0, 0, 0, 0, 0),
  (16, .getfield 105, 3, 0, 11, 45, 0, 0),
  (19, .bipush 8, 2, 0, 0, 0, 8, 0),
  (21, .iload_n 2, 1, 0, 0, 0, 0, 0),
  (22, .iadd, 1, 0, 0, 0, 0, 0),
  (23, .iaload, 1, 0, 30, 0, 0, 0),
  (24, .iadd, 1, 0, 0, 0, 0, 0),
  (25, .istore_n 1, 1, 0, 0, 0, 0, 0),
  (26, .iinc 2 1, 3, 0, 0, 0, 1, 0),
  (29, .goto (-25), 3, 0, 4, 1, 0, 0),
  (32, .iload_n 1, 1, 0, 0, 0, 0, 0),
  (33, .ireturn, 1, 0, 0, 0, 0, 0)]
def lM103 (q : Nat) : Nat := 7
def kM104 : List aE := [(0, .aload_n 0, 1, 0, 0, 0, 0, 0),
  (1, .iconst 0, 1, 0, 0, 0, 0, 0),
  (2, .putfield 135, 3, 0, 11, 0, 0, 0),
  (5, .iload_n 1, 1, 0, 0, 0, 0, 0),
  (6, .iconst 0, 1, 0, 0, 0, 0, 0),
  (7, .bipush 13, 2, 0, 0, 0, 13, 0),
  (9, .invokestatic 269, 3, 0, 1, 19, 0, 0),
  (12, .ifCond .ne 5, 3, 0, 2, 0, 0, 0),
  (15, .iconst (-1), 1, 0, 0, 0, -1, 0),
  (16, .ireturn, 1, 0, 0, 0, 0, 0),
  (17, .iload_n 1, 1, 0, 0, 0, 0, 0),
  (18, .iconst 3, 1, 0, 0, 0, 3, 0),
  (19, .if_icmp .ge 10, 3, 0, 5, 0, 0, 0),
  (22, .aload_n 0, 1, 0, 0, 0, 0, 0),
  (23, .getfield 13, 3, 0, 11, 10, 0, 0),
  (26, .iload_n 1, 1, 0, 0, 0, 0, 0),
  (27, .iaload, 1, 0, 30, 0, 0, 0),
  (28, .ireturn, 1, 0, 0, 0, 0, 0),
  (29, .iload_n 1, 1, 0, 0, 0, 0, 0),
  (30, .bipush 6, 2, 0, 0, 0, 6, 0),
  (32, .if_icmp .ge 48, 3, 0, 27, 0, 0, 0),
  (35, .iload_n 1, 1, 0, 0, 0, 0, 0),
  (36, .iconst 3, 1, 0, 0, 0, 3, 0),
  (37, .if_icmp .ne 12, 3, 0, 5, 0, 0, 0),
  (40, .aload_n 0, 1, 0, 0, 0, 0, 0),
  (41, .getfield 105, 3, 0, 11, 45, 0, 0),
  (44, .iconst 0, 1, 0, 0, 0, 0, 0),
  (45, .iaload, 1, 0, 30, 0, 0, 0),
  (46, .goto 33, 3, 0, 18, 0, 0, 0),
  (49, .iload_n 1, 1, 0, 0, 0, 0, 0),
  (50, .iconst 4, 1, 0, 0, 0, 4, 0),
  (51, .if_icmp .ne 12, 3, 0, 5, 0, 0, 0),
  (54, .aload_n 0, 1, 0, 0, 0, 0, 0),
  (55, .getfield 105, 3, 0, 11, 45, 0, 0),
  (58, .iconst 1, 1, 0, 0, 0, 1, 0),
  (59, .iaload, 1, 0, 30, 0, 0, 0),
  (60, .goto 19, 3, 0, 10, 0, 0, 0),
  (63, .aload_n 0, 1, 0, 0, 0, 0, 0),
  (64, .aload_n 0, 1, 0, 0, 0, 0, 0),
  (65, .getfield 105, 3, 0, 11, 45, 0, 0),
  (68, .iconst 0, 1, 0, 0, 0, 0, 0),
  (69, .iaload, 1, 0, 30, 0, 0, 0),
  (70, .aload_n 0, 1, 0, 0, 0, 0, 0),
  (71, .getfield 105, 3, 0, 11, 45, 0, 0),
  (74, .iconst 1, 1, 0, 0, 0, 1, 0),
  (75, .iaload, 1, 0, 30, 0, 0, 0),
  (76, .invokevirtual 366, 3, 0, 44, 19, 0, 0),
  (79, .ireturn, 1, 0, 0, 0, 0, 0),
  (80, .iload_n 1, 1, 0, 0, 0, 0, 0),
  (81, .bipush 9, 2, 0, 0, 0, 9, 0),
  (83, .if_icmp .ge 38, 3, 0, 19, 0, 0, 0),
  (86, .iload_n 1, 1, 0, 0, 0, 0, 0),
  (87, .bipush 6, 2, 0, 0, 0, 6, 0),
  (89, .if_icmp .ne 12, 3, 0, 5, 0, 0, 0),
  (92, .aload_n 0, 1, 0, 0, 0, 0, 0),
  (93, .getfield 105, 3, 0, 11, 45, 0, 0),
  (96, .iconst 3, 1, 0, 0, 0, 3, 0),
  (97, .iaload, 1, 0, 30, 0, 0, 0),
  (98, .goto 22, 3, 0, 10, 0, 0, 0),
  (101, .iload_n 1, 1, 0, 0, 0, 0, 0),
  (102, .bipush 7, 2, 0, 0, 0, 7, 0),
  (104, .if_icmp .ne 12, 3, 0, 5, 0, 0, 0),
  (107, .aload_n 0, 1, 0, 0, 0, 0, 0),
  (108, .getfield 105, 3, 0, 11, 45, 0, 0),
  (111, .iconst 2, 1, 0, 0, 0, 2, 0),
  (112, .iaload, 1, 0, 30, 0, 0, 0),
  (113, .goto 7, 3, 0, 2, 0, 0, 0),
  (116, .aload_n 0, 1, 0, 0, 0, 0, 0),
  (117, .invokevirtual 526, 3, 0, 103, 17, 0, 0),
  (120, .ireturn, 1, 0, 0, 0, 0, 0),
  (121, .iload_n 1, 1, 0, 0, 0, 0, 0),
  (122, .bipush 12, 2, 0, 0, 0, 12, 0),
  (124, .if_icmp .ge 40, 3, 0, 21, 0, 0, 0),
  (127, .iload_n 1, 1, 0, 0, 0, 0, 0),
  (128, .bipush 9, 2, 0, 0, 0, 9, 0),
  (130, .if_icmp .ne 12, 3, 0, 5, 0, 0, 0),
  (133, .aload_n 0, 1, 0, 0, 0, 0, 0),
  (134, .getfield 13, 3, 0, 11, 10, 0, 0),
  (137, .iconst 3, 1, 0, 0, 0, 3, 0),
  (138, .iaload, 1, 0, 30, 0, 0, 0),
  (139, .goto 24, 3, 0, 12, 0, 0, 0),
  (142, .iload_n 1, 1, 0, 0, 0, 0, 0),
  (143, .bipush 10, 2, 0, 0, 0, 10, 0),
  (145, .if_icmp .ne 12, 3, 0, 5, 0, 0, 0),
  (148, .aload_n 0, 1, 0, 0, 0, 0, 0),
  (149, .getfield 90, 3, 0, 11, 40, 0, 0),
  (152, .iconst 0, 1, 0, 0, 0, 0, 0),
  (153, .iaload, 1, 0, 30, 0, 0, 0),
  (154, .goto 9, 3, 0, 4, 0, 0, 0),
  (157, .aload_n 0, 1, 0, 0, 0, 0, 0),
  (158, .getfield 99, 3, 0, 11, 43, 0, 0),
  (161, .iconst 0, 1, 0, 0, 0, 0, 0),
  (162, .iaload, 1, 0, 30, 0, 0, 0),
  (163, .ireturn, 1, 0, 0, 0, 0, 0),
  (164, .iload_n 1, 1, 0, 0, 0, 0, 0),
  (165, .bipush 12, 2, 0, 0, 0, 12, 0),
  (167, .if_icmp .ne 10, 3, 0, 3, 0, 0, 0),
  (170, .aload_n 0, 1, 0, 0, 0, 0, 0),
  (171, .getfield 343, 3, 0, 11, 50, 0, 0),
  (174, .goto 7, 3, 0, 2, 0, 0, 0),
  (177, .aload_n 0, 1, 0, 0, 0, 0, 0),
  (178, .getfield 141, 3, 0, 11, 1, 0, 0),
  (181, .ireturn, 1, 0, 0, 0, 0, 0)]
def lM104 (q : Nat) : Nat := 0
def iM0 : aMI := (yX13_thrown, cX13_thrown, 1, (some .int), 11, 11, 0, lM0, kM0)
def iM1 : aMI := (yX13_within, cX13_within, 3, (some .boolean), 11, 99, 3, lM1, kM1)
def iM2 : aMI := (yX13_between, cX13_between, 3, (some .int), 11, 99, 3, lM2, kM2)
def iM3 : aMI := (yX13_bits, cX13_bits, 3, (some .int), 11, 99, 1, lM3, kM3)
def iM4 : aMI := (yX13_feed, cX13_feed, 11, (some .int), 11, 11, 3, lM4, kM4)
def iM5 : aMI := (yX13_signAt, cX13_signAt, 2, (some .int), 11, 11, 1, lM5, kM5)
def iM6 : aMI := (yX13_nextToken, cX13_nextToken, 2, none, 11, 11, 0, lM6, kM6)
def iM7 : aMI := (yX13_isWord, cX13_isWord, 3, (some .boolean), 11, 11, 1, lM7, kM7)
def iM8 : aMI := (yX13_isSign, cX13_isSign, 2, (some .boolean), 11, 11, 1, lM8, kM8)
def iM9 : aMI := (yX13_fails, cX13_fails, 2, (some .boolean), 11, 11, 1, lM9, kM9)
def iM10 : aMI := (yX13_puts, cX13_puts, 2, none, 11, 11, 1, lM10, kM10)
def iM11 : aMI := (yX13_fact, cX13_fact, 1, (some .int), 11, 11, 0, lM11, kM11)
def iM12 : aMI := (yX13_reads, cX13_reads, 6, (some .boolean), 11, 11, 0, lM12, kM12)
def iM13 : aMI := (yX13_opens, cX13_opens, 2, none, 11, 11, 1, lM13, kM13)
def iM14 : aMI := (yX13_sums, cX13_sums, 2, none, 11, 11, 1, lM14, kM14)
def iM15 : aMI := (yX13_tests, cX13_tests, 3, none, 11, 11, 1, lM15, kM15)
def iM16 : aMI := (yX13_worked, cX13_worked, 6, (some .int), 11, 11, 1, lM16, kM16)
def iM17 : aMI := (yX13_isKept, cX13_isKept, 1, (some .boolean), 11, 11, 0, lM17, kM17)
def iM18 : aMI := (yX13_writerNamed, cX13_writerNamed, 2, (some .int), 11, 11, 0, lM18, kM18)
def iM19 : aMI := (yX13_wordNamed, cX13_wordNamed, 3, (some .int), 11, 11, 1, lM19, kM19)
def iM20 : aMI := (yX13_needsNumber, cX13_needsNumber, 3, (some .boolean), 11, 11, 2, lM20, kM20)
def iM21 : aMI := (yX13_needsBoth, cX13_needsBoth, 5, (some .boolean), 11, 11, 3, lM21, kM21)
def iM22 : aMI := (yX13_closes, cX13_closes, 1, (some .boolean), 11, 11, 0, lM22, kM22)
def iM23 : aMI := (yX13_needsNew, cX13_needsNew, 1, (some .boolean), 11, 11, 0, lM23, kM23)
def iM24 : aMI := (yX13_needsToldWord, cX13_needsToldWord, 2, (some .boolean), 11, 11, 1, lM24, kM24)
def iM25 : aMI := (yX13_readsWriter, cX13_readsWriter, 3, (some .boolean), 11, 11, 0, lM25, kM25)
def iM26 : aMI := (yX13_readsWord, cX13_readsWord, 2, (some .boolean), 11, 11, 0, lM26, kM26)
def iM27 : aMI := (yX13_readsLikes, cX13_readsLikes, 3, (some .boolean), 11, 11, 0, lM27, kM27)
def iM28 : aMI := (yX13_readsClash, cX13_readsClash, 2, (some .boolean), 11, 11, 0, lM28, kM28)
def iM29 : aMI := (yX13_readsFolds, cX13_readsFolds, 1, (some .boolean), 11, 11, 0, lM29, kM29)
def iM30 : aMI := (yX13_readsLaw, cX13_readsLaw, 2, (some .boolean), 11, 11, 1, lM30, kM30)
def iM31 : aMI := (yX13_begins, cX13_begins, 1, none, 11, 11, 0, lM31, kM31)
def iM32 : aMI := (yX13_readsAll, cX13_readsAll, 2, (some .boolean), 11, 11, 0, lM32, kM32)
def iM33 : aMI := (yX13_shifts, cX13_shifts, 3, none, 11, 99, 2, lM33, kM33)
def iM34 : aMI := (yX13_lays, cX13_lays, 2, none, 11, 11, 0, lM34, kM34)
def iM35 : aMI := (yX13_copies, cX13_copies, 5, none, 11, 99, 4, lM35, kM35)
def iM36 : aMI := (yX13_readsLine, cX13_readsLine, 3, (some .boolean), 11, 11, 0, lM36, kM36)
def iM37 : aMI := (yX13_laysLines, cX13_laysLines, 4, none, 11, 11, 2, lM37, kM37)
def iM38 : aMI := (yX13_laysRead, cX13_laysRead, 4, none, 11, 11, 2, lM38, kM38)
def iM39 : aMI := (yX13_fresh, cX13_fresh, 2, none, 11, 11, 0, lM39, kM39)
def iM40 : aMI := (yX13_realm, cX13_realm, 2, (some .int), 11, 11, 0, lM40, kM40)
def iM41 : aMI := (yX13_sundays, cX13_sundays, 1, (some .int), 11, 11, 0, lM41, kM41)
def iM42 : aMI := (yX13_isWriter, cX13_isWriter, 2, (some .boolean), 11, 11, 1, lM42, kM42)
def iM43 : aMI := (yX13_isTold, cX13_isTold, 2, (some .boolean), 11, 11, 1, lM43, kM43)
def iM44 : aMI := (yX13_writerOf, cX13_writerOf, 3, (some .int), 11, 11, 2, lM44, kM44)
def iM45 : aMI := (yX13_likelyBy, cX13_likelyBy, 7, (some .int), 11, 11, 3, lM45, kM45)
def iM46 : aMI := (yX13_aheadOf, cX13_aheadOf, 2, (some .int), 11, 11, 1, lM46, kM46)
def iM47 : aMI := (yX13_likelyNow, cX13_likelyNow, 2, (some .int), 11, 11, 1, lM47, kM47)
def iM48 : aMI := (yX13_allLikely, cX13_allLikely, 6, (some .int), 11, 11, 3, lM48, kM48)
def iM49 : aMI := (yX13_doesBy, cX13_doesBy, 4, (some .int), 11, 11, 2, lM49, kM49)
def iM50 : aMI := (yX13_writer, cX13_writer, 3, (some .int), 11, 11, 2, lM50, kM50)
def iM51 : aMI := (yX13_word, cX13_word, 3, (some .int), 11, 11, 2, lM51, kM51)
def iM52 : aMI := (yX13_strip, cX13_strip, 2, (some .int), 11, 11, 1, lM52, kM52)
def iM53 : aMI := (yX13_spike, cX13_spike, 3, (some .int), 11, 11, 2, lM53, kM53)
def iM54 : aMI := (yX13_keeps, cX13_keeps, 2, none, 11, 11, 0, lM54, kM54)
def iM55 : aMI := (yX13_canWrite, cX13_canWrite, 2, (some .boolean), 11, 11, 1, lM55, kM55)
def iM56 : aMI := (yX13_fallsOff, cX13_fallsOff, 3, none, 11, 11, 1, lM56, kM56)
def iM57 : aMI := (yX13_ends, cX13_ends, 4, none, 11, 11, 0, lM57, kM57)
def iM58 : aMI := (yX13_laysWord, cX13_laysWord, 2, none, 11, 11, 1, lM58, kM58)
def iM59 : aMI := (yX13_burns, cX13_burns, 4, none, 11, 11, 1, lM59, kM59)
def iM60 : aMI := (yX13_canPass, cX13_canPass, 1, (some .boolean), 11, 11, 0, lM60, kM60)
def iM61 : aMI := (yX13_write, cX13_write, 2, (some .int), 11, 11, 1, lM61, kM61)
def iM62 : aMI := (yX13_pass, cX13_pass, 1, (some .int), 11, 11, 0, lM62, kM62)
def iM63 : aMI := (yX13_burn, cX13_burn, 2, (some .int), 11, 11, 1, lM63, kM63)
def iM64 : aMI := (yX13_undo, cX13_undo, 1, (some .boolean), 11, 11, 0, lM64, kM64)
def iM65 : aMI := (yX13_wordsOf, cX13_wordsOf, 4, (some .int), 11, 11, 1, lM65, kM65)
def iM66 : aMI := (yX13_doClash, cX13_doClash, 6, (some .boolean), 11, 11, 2, lM66, kM66)
def iM67 : aMI := (yX13_clashesOf, cX13_clashesOf, 5, (some .int), 11, 11, 1, lM67, kM67)
def iM68 : aMI := (yX13_allWholes, cX13_allWholes, 1, (some .int), 11, 11, 0, lM68, kM68)
def iM69 : aMI := (yX13_goes, cX13_goes, 3, (some .boolean), 11, 11, 1, lM69, kM69)
def iM70 : aMI := (yX13_doesLastClash, cX13_doesLastClash, 2, (some .boolean), 11, 11, 0, lM70, kM70)
def iM71 : aMI := (yX13_judged, cX13_judged, 6, (some .int), 11, 11, 1, lM71, kM71)
def iM72 : aMI := (yX13_goesOn, cX13_goesOn, 5, (some .boolean), 11, 11, 3, lM72, kM72)
def iM73 : aMI := (yX13_wordIn, cX13_wordIn, 5, (some .int), 11, 11, 2, lM73, kM73)
def iM74 : aMI := (yX13_comes, cX13_comes, 5, (some .int), 11, 11, 1, lM74, kM74)
def iM75 : aMI := (yX13_endsRow, cX13_endsRow, 4, none, 11, 11, 2, lM75, kM75)
def iM76 : aMI := (yX13_rows, cX13_rows, 10, none, 11, 11, 4, lM76, kM76)
def iM77 : aMI := (yX13_laysRows, cX13_laysRows, 4, none, 11, 11, 0, lM77, kM77)
def iM78 : aMI := (yX13_best, cX13_best, 2, (some .int), 11, 11, 1, lM78, kM78)
def iM79 : aMI := (yX13_worst, cX13_worst, 1, (some .int), 11, 11, 0, lM79, kM79)
def iM80 : aMI := (yX13_mean, cX13_mean, 1, (some .int), 11, 11, 0, lM80, kM80)
def iM81 : aMI := (yX13_noneOnly, cX13_noneOnly, 2, none, 11, 11, 0, lM81, kM81)
def iM82 : aMI := (yX13_goesOnAt, cX13_goesOnAt, 3, (some .boolean), 11, 11, 2, lM82, kM82)
def iM83 : aMI := (yX13_sharesFrom, cX13_sharesFrom, 8, none, 11, 11, 4, lM83, kM83)
def iM84 : aMI := (yX13_sharesOut, cX13_sharesOut, 7, (some .int), 11, 11, 3, lM84, kM84)
def iM85 : aMI := (yX13_aim, cX13_aim, 7, (some .int), 11, 11, 2, lM85, kM85)
def iM86 : aMI := (yX13_meet, cX13_meet, 6, (some .int), 11, 11, 3, lM86, kM86)
def iM87 : aMI := (yX13_clashes, cX13_clashes, 1, (some .int), 11, 11, 0, lM87, kM87)
def iM88 : aMI := (yX13_fire, cX13_fire, 4, (some .int), 11, 11, 0, lM88, kM88)
def iM89 : aMI := (yX13_read, cX13_read, 2, (some .boolean), 11, 11, 1, lM89, kM89)
def iM90 : aMI := (yX13_laysOnly, cX13_laysOnly, 3, (some .boolean), 11, 11, 0, lM90, kM90)
def iM91 : aMI := (yX13_beganBy, cX13_beganBy, 3, (some .int), 11, 11, 0, lM91, kM91)
def iM92 : aMI := (yX13_began, cX13_began, 1, (some .int), 11, 11, 0, lM92, kM92)
def iM93 : aMI := (yX13_sure, cX13_sure, 5, (some .int), 11, 11, 0, lM93, kM93)
def iM94 : aMI := (yX13_likeliest, cX13_likeliest, 7, (some .int), 11, 11, 2, lM94, kM94)
def iM95 : aMI := (yX13_ask, cX13_ask, 8, (some .int), 11, 11, 0, lM95, kM95)
def iM96 : aMI := (yX13_spent, cX13_spent, 4, (some .int), 11, 11, 0, lM96, kM96)
def iM97 : aMI := (yX13_getsBy, cX13_getsBy, 5, (some .int), 11, 99, 5, lM97, kM97)
def iM98 : aMI := (yX13_rests, cX13_rests, 9, (some .int), 11, 11, 4, lM98, kM98)
def iM99 : aMI := (yX13_draws, cX13_draws, 2, (some .int), 11, 11, 1, lM99, kM99)
def iM100 : aMI := (yX13_livesWord, cX13_livesWord, 5, (some .boolean), 11, 11, 0, lM100, kM100)
def iM101 : aMI := (yX13_generations, cX13_generations, 7, (some .int), 11, 11, 3, lM101, kM101)
def iM102 : aMI := (yX13_mark, cX13_mark, 5, (some .boolean), 11, 11, 2, lM102, kM102)
def iM103 : aMI := (yX13_allLeft, cX13_allLeft, 3, (some .int), 11, 11, 0, lM103, kM103)
def iM104 : aMI := (yX13_count, cX13_count, 2, (some .int), 11, 11, 1, lM104, kM104)
def miM (j : Nat) : aMI := cond (Nat.ble j 51) (cond (Nat.ble j 25) (cond (Nat.ble j 12) (cond (Nat.ble j 5) (cond (Nat.ble j 2) (cond (Nat.ble j 0) (iM0) (cond (Nat.ble j 1) (iM1) (iM2))) (cond (Nat.ble j 3) (iM3) (cond (Nat.ble j 4) (iM4) (iM5)))) (cond (Nat.ble j 8) (cond (Nat.ble j 6) (iM6) (cond (Nat.ble j 7) (iM7) (iM8))) (cond (Nat.ble j 10) (cond (Nat.ble j 9) (iM9) (iM10)) (cond (Nat.ble j 11) (iM11) (iM12))))) (cond (Nat.ble j 18) (cond (Nat.ble j 15) (cond (Nat.ble j 13) (iM13) (cond (Nat.ble j 14) (iM14) (iM15))) (cond (Nat.ble j 16) (iM16) (cond (Nat.ble j 17) (iM17) (iM18)))) (cond (Nat.ble j 21) (cond (Nat.ble j 19) (iM19) (cond (Nat.ble j 20) (iM20) (iM21))) (cond (Nat.ble j 23) (cond (Nat.ble j 22) (iM22) (iM23)) (cond (Nat.ble j 24) (iM24) (iM25)))))) (cond (Nat.ble j 38) (cond (Nat.ble j 31) (cond (Nat.ble j 28) (cond (Nat.ble j 26) (iM26) (cond (Nat.ble j 27) (iM27) (iM28))) (cond (Nat.ble j 29) (iM29) (cond (Nat.ble j 30) (iM30) (iM31)))) (cond (Nat.ble j 34) (cond (Nat.ble j 32) (iM32) (cond (Nat.ble j 33) (iM33) (iM34))) (cond (Nat.ble j 36) (cond (Nat.ble j 35) (iM35) (iM36)) (cond (Nat.ble j 37) (iM37) (iM38))))) (cond (Nat.ble j 44) (cond (Nat.ble j 41) (cond (Nat.ble j 39) (iM39) (cond (Nat.ble j 40) (iM40) (iM41))) (cond (Nat.ble j 42) (iM42) (cond (Nat.ble j 43) (iM43) (iM44)))) (cond (Nat.ble j 47) (cond (Nat.ble j 45) (iM45) (cond (Nat.ble j 46) (iM46) (iM47))) (cond (Nat.ble j 49) (cond (Nat.ble j 48) (iM48) (iM49)) (cond (Nat.ble j 50) (iM50) (iM51))))))) (cond (Nat.ble j 77) (cond (Nat.ble j 64) (cond (Nat.ble j 57) (cond (Nat.ble j 54) (cond (Nat.ble j 52) (iM52) (cond (Nat.ble j 53) (iM53) (iM54))) (cond (Nat.ble j 55) (iM55) (cond (Nat.ble j 56) (iM56) (iM57)))) (cond (Nat.ble j 60) (cond (Nat.ble j 58) (iM58) (cond (Nat.ble j 59) (iM59) (iM60))) (cond (Nat.ble j 62) (cond (Nat.ble j 61) (iM61) (iM62)) (cond (Nat.ble j 63) (iM63) (iM64))))) (cond (Nat.ble j 70) (cond (Nat.ble j 67) (cond (Nat.ble j 65) (iM65) (cond (Nat.ble j 66) (iM66) (iM67))) (cond (Nat.ble j 68) (iM68) (cond (Nat.ble j 69) (iM69) (iM70)))) (cond (Nat.ble j 73) (cond (Nat.ble j 71) (iM71) (cond (Nat.ble j 72) (iM72) (iM73))) (cond (Nat.ble j 75) (cond (Nat.ble j 74) (iM74) (iM75)) (cond (Nat.ble j 76) (iM76) (iM77)))))) (cond (Nat.ble j 90) (cond (Nat.ble j 83) (cond (Nat.ble j 80) (cond (Nat.ble j 78) (iM78) (cond (Nat.ble j 79) (iM79) (iM80))) (cond (Nat.ble j 81) (iM81) (cond (Nat.ble j 82) (iM82) (iM83)))) (cond (Nat.ble j 86) (cond (Nat.ble j 84) (iM84) (cond (Nat.ble j 85) (iM85) (iM86))) (cond (Nat.ble j 88) (cond (Nat.ble j 87) (iM87) (iM88)) (cond (Nat.ble j 89) (iM89) (iM90))))) (cond (Nat.ble j 97) (cond (Nat.ble j 93) (cond (Nat.ble j 91) (iM91) (cond (Nat.ble j 92) (iM92) (iM93))) (cond (Nat.ble j 95) (cond (Nat.ble j 94) (iM94) (iM95)) (cond (Nat.ble j 96) (iM96) (iM97)))) (cond (Nat.ble j 100) (cond (Nat.ble j 98) (iM98) (cond (Nat.ble j 99) (iM99) (iM100))) (cond (Nat.ble j 102) (cond (Nat.ble j 101) (iM101) (iM102)) (cond (Nat.ble j 103) (iM103) (iM104)))))))
def nmM : Nat := 105
def tbM (_ : Nat) : List (Int32 × Nat) := []
def mtM : List (Nat × Nat × Nat) := [(11, 132, 39), (11, 163, 5), (11, 196, 11), (11, 202, 7), (11, 206, 8), (11, 210, 9), (11, 213, 10), (11, 217, 6), (11, 224, 14), (11, 227, 13), (11, 230, 15), (11, 269, 1), (11, 276, 20), (11, 280, 17), (11, 284, 18), (11, 287, 19), (11, 292, 23), (11, 295, 22), (11, 298, 21), (11, 302, 24), (11, 309, 12), (11, 312, 31), (11, 315, 25), (11, 318, 26), (11, 321, 27), (11, 324, 28), (11, 327, 29), (11, 330, 30), (11, 333, 33), (11, 337, 32), (11, 340, 34), (11, 346, 36), (11, 349, 37), (11, 353, 16), (11, 356, 2), (11, 366, 44), (11, 369, 46), (11, 372, 45), (11, 375, 42), (11, 378, 43), (11, 381, 47), (11, 384, 35), (11, 388, 49), (11, 394, 56), (11, 397, 57), (11, 403, 55), (11, 406, 54), (11, 409, 58), (11, 412, 60), (11, 415, 59), (11, 418, 65), (11, 421, 66), (11, 424, 69), (11, 427, 70), (11, 436, 48), (11, 439, 3), (11, 442, 73), (11, 445, 72), (11, 462, 75), (11, 465, 76), (11, 469, 77), (11, 475, 83), (11, 478, 82), (11, 481, 81), (11, 484, 84), (11, 487, 68), (11, 490, 67), (11, 493, 90), (11, 496, 91), (11, 499, 94), (11, 502, 97), (11, 517, 99), (11, 520, 100), (11, 523, 38), (11, 526, 103)]
theorem okM0 : aMok iM0 := ⟨by decide +kernel, rfl, by decide +kernel, by decide +kernel, by decide +kernel, by decide, aW_t 1450 (by decide +kernel) (by decide +kernel), aW_t 15 (by decide +kernel) (by decide +kernel), Or.inr ⟨by decide, ⟨(RX13, TX13, 63), rfl, rfl⟩, aW_t 1448 (by decide +kernel) (by decide +kernel), aW_t 1449 (by decide +kernel) (by decide +kernel)⟩⟩
theorem okM1 : aMok iM1 := ⟨by decide +kernel, rfl, by decide +kernel, by decide +kernel, by decide +kernel, by decide, aW_t 1549 (by decide +kernel) (by decide +kernel), aW_t 15 (by decide +kernel) (by decide +kernel), Or.inl ⟨rfl, aW_t 1548 (by decide +kernel) (by decide +kernel)⟩⟩
theorem okM2 : aMok iM2 := ⟨by decide +kernel, rfl, by decide +kernel, by decide +kernel, by decide +kernel, by decide, aW_t 1659 (by decide +kernel) (by decide +kernel), aW_t 15 (by decide +kernel) (by decide +kernel), Or.inl ⟨rfl, aW_t 1658 (by decide +kernel) (by decide +kernel)⟩⟩
theorem okM3 : aMok iM3 := ⟨by decide +kernel, rfl, by decide +kernel, by decide +kernel, by decide +kernel, by decide, aW_t 1747 (by decide +kernel) (by decide +kernel), aW_t 15 (by decide +kernel) (by decide +kernel), Or.inl ⟨rfl, aW_t 1746 (by decide +kernel) (by decide +kernel)⟩⟩
theorem okM4 : aMok iM4 := ⟨by decide +kernel, rfl, by decide +kernel, by decide +kernel, by decide +kernel, by decide, aW_t 1454 (by decide +kernel) (by decide +kernel), aW_t 15 (by decide +kernel) (by decide +kernel), Or.inr ⟨by decide, ⟨(RX13, TX13, 63), rfl, rfl⟩, aW_t 1452 (by decide +kernel) (by decide +kernel), aW_t 1453 (by decide +kernel) (by decide +kernel)⟩⟩
theorem okM5 : aMok iM5 := ⟨by decide +kernel, rfl, by decide +kernel, by decide +kernel, by decide +kernel, by decide, aW_t 1475 (by decide +kernel) (by decide +kernel), aW_t 15 (by decide +kernel) (by decide +kernel), Or.inr ⟨by decide, ⟨(RX13, TX13, 63), rfl, rfl⟩, aW_t 1474 (by decide +kernel) (by decide +kernel), aW_s 45 (by decide +kernel) (by decide +kernel)⟩⟩
theorem okM6 : aMok iM6 := ⟨by decide +kernel, rfl, by decide +kernel, by decide +kernel, by decide +kernel, by decide, aW_t 1471 (by decide +kernel) (by decide +kernel), aW_t 15 (by decide +kernel) (by decide +kernel), Or.inr ⟨by decide, ⟨(RX13, TX13, 63), rfl, rfl⟩, aW_t 1470 (by decide +kernel) (by decide +kernel), aW_s 44 (by decide +kernel) (by decide +kernel)⟩⟩
theorem okM7 : aMok iM7 := ⟨by decide +kernel, rfl, by decide +kernel, by decide +kernel, by decide +kernel, by decide, aW_t 1482 (by decide +kernel) (by decide +kernel), aW_t 15 (by decide +kernel) (by decide +kernel), Or.inr ⟨by decide, ⟨(RX13, TX13, 63), rfl, rfl⟩, aW_t 1481 (by decide +kernel) (by decide +kernel), aW_s 46 (by decide +kernel) (by decide +kernel)⟩⟩
theorem okM8 : aMok iM8 := ⟨by decide +kernel, rfl, by decide +kernel, by decide +kernel, by decide +kernel, by decide, aW_t 1534 (by decide +kernel) (by decide +kernel), aW_t 15 (by decide +kernel) (by decide +kernel), Or.inr ⟨by decide, ⟨(RX13, TX13, 63), rfl, rfl⟩, aW_t 1533 (by decide +kernel) (by decide +kernel), aW_s 54 (by decide +kernel) (by decide +kernel)⟩⟩
theorem okM9 : aMok iM9 := ⟨by decide +kernel, rfl, by decide +kernel, by decide +kernel, by decide +kernel, by decide, aW_t 1490 (by decide +kernel) (by decide +kernel), aW_t 15 (by decide +kernel) (by decide +kernel), Or.inr ⟨by decide, ⟨(RX13, TX13, 63), rfl, rfl⟩, aW_t 1489 (by decide +kernel) (by decide +kernel), aW_s 48 (by decide +kernel) (by decide +kernel)⟩⟩
theorem okM10 : aMok iM10 := ⟨by decide +kernel, rfl, by decide +kernel, by decide +kernel, by decide +kernel, by decide, aW_t 1589 (by decide +kernel) (by decide +kernel), aW_t 15 (by decide +kernel) (by decide +kernel), Or.inr ⟨by decide, ⟨(RX13, TX13, 63), rfl, rfl⟩, aW_t 1588 (by decide +kernel) (by decide +kernel), aW_s 65 (by decide +kernel) (by decide +kernel)⟩⟩
theorem okM11 : aMok iM11 := ⟨by decide +kernel, rfl, by decide +kernel, by decide +kernel, by decide +kernel, by decide, aW_t 1577 (by decide +kernel) (by decide +kernel), aW_t 15 (by decide +kernel) (by decide +kernel), Or.inr ⟨by decide, ⟨(RX13, TX13, 63), rfl, rfl⟩, aW_t 1576 (by decide +kernel) (by decide +kernel), aW_s 64 (by decide +kernel) (by decide +kernel)⟩⟩
theorem okM12 : aMok iM12 := ⟨by decide +kernel, rfl, by decide +kernel, by decide +kernel, by decide +kernel, by decide, aW_t 1573 (by decide +kernel) (by decide +kernel), aW_t 15 (by decide +kernel) (by decide +kernel), Or.inr ⟨by decide, ⟨(RX13, TX13, 63), rfl, rfl⟩, aW_t 1572 (by decide +kernel) (by decide +kernel), aW_s 63 (by decide +kernel) (by decide +kernel)⟩⟩
theorem okM13 : aMok iM13 := ⟨by decide +kernel, rfl, by decide +kernel, by decide +kernel, by decide +kernel, by decide, aW_t 1648 (by decide +kernel) (by decide +kernel), aW_t 15 (by decide +kernel) (by decide +kernel), Or.inr ⟨by decide, ⟨(RX13, TX13, 63), rfl, rfl⟩, aW_t 1647 (by decide +kernel) (by decide +kernel), aW_s 76 (by decide +kernel) (by decide +kernel)⟩⟩
theorem okM14 : aMok iM14 := ⟨by decide +kernel, rfl, by decide +kernel, by decide +kernel, by decide +kernel, by decide, aW_t 1652 (by decide +kernel) (by decide +kernel), aW_t 15 (by decide +kernel) (by decide +kernel), Or.inr ⟨by decide, ⟨(RX13, TX13, 63), rfl, rfl⟩, aW_t 1651 (by decide +kernel) (by decide +kernel), aW_s 77 (by decide +kernel) (by decide +kernel)⟩⟩
theorem okM15 : aMok iM15 := ⟨by decide +kernel, rfl, by decide +kernel, by decide +kernel, by decide +kernel, by decide, aW_t 1656 (by decide +kernel) (by decide +kernel), aW_t 15 (by decide +kernel) (by decide +kernel), Or.inr ⟨by decide, ⟨(RX13, TX13, 63), rfl, rfl⟩, aW_t 1655 (by decide +kernel) (by decide +kernel), aW_s 78 (by decide +kernel) (by decide +kernel)⟩⟩
theorem okM16 : aMok iM16 := ⟨by decide +kernel, rfl, by decide +kernel, by decide +kernel, by decide +kernel, by decide, aW_t 1644 (by decide +kernel) (by decide +kernel), aW_t 15 (by decide +kernel) (by decide +kernel), Or.inr ⟨by decide, ⟨(RX13, TX13, 63), rfl, rfl⟩, aW_t 1643 (by decide +kernel) (by decide +kernel), aW_s 75 (by decide +kernel) (by decide +kernel)⟩⟩
theorem okM17 : aMok iM17 := ⟨by decide +kernel, rfl, by decide +kernel, by decide +kernel, by decide +kernel, by decide, aW_t 1498 (by decide +kernel) (by decide +kernel), aW_t 15 (by decide +kernel) (by decide +kernel), Or.inr ⟨by decide, ⟨(RX13, TX13, 63), rfl, rfl⟩, aW_t 1497 (by decide +kernel) (by decide +kernel), aW_s 50 (by decide +kernel) (by decide +kernel)⟩⟩
theorem okM18 : aMok iM18 := ⟨by decide +kernel, rfl, by decide +kernel, by decide +kernel, by decide +kernel, by decide, aW_t 1522 (by decide +kernel) (by decide +kernel), aW_t 15 (by decide +kernel) (by decide +kernel), Or.inr ⟨by decide, ⟨(RX13, TX13, 63), rfl, rfl⟩, aW_t 1521 (by decide +kernel) (by decide +kernel), aW_s 51 (by decide +kernel) (by decide +kernel)⟩⟩
theorem okM19 : aMok iM19 := ⟨by decide +kernel, rfl, by decide +kernel, by decide +kernel, by decide +kernel, by decide, aW_t 1526 (by decide +kernel) (by decide +kernel), aW_t 15 (by decide +kernel) (by decide +kernel), Or.inr ⟨by decide, ⟨(RX13, TX13, 63), rfl, rfl⟩, aW_t 1525 (by decide +kernel) (by decide +kernel), aW_s 52 (by decide +kernel) (by decide +kernel)⟩⟩
theorem okM20 : aMok iM20 := ⟨by decide +kernel, rfl, by decide +kernel, by decide +kernel, by decide +kernel, by decide, aW_t 1546 (by decide +kernel) (by decide +kernel), aW_t 15 (by decide +kernel) (by decide +kernel), Or.inr ⟨by decide, ⟨(RX13, TX13, 63), rfl, rfl⟩, aW_t 1545 (by decide +kernel) (by decide +kernel), aW_s 57 (by decide +kernel) (by decide +kernel)⟩⟩
theorem okM21 : aMok iM21 := ⟨by decide +kernel, rfl, by decide +kernel, by decide +kernel, by decide +kernel, by decide, aW_t 1542 (by decide +kernel) (by decide +kernel), aW_t 15 (by decide +kernel) (by decide +kernel), Or.inr ⟨by decide, ⟨(RX13, TX13, 63), rfl, rfl⟩, aW_t 1541 (by decide +kernel) (by decide +kernel), aW_s 56 (by decide +kernel) (by decide +kernel)⟩⟩
theorem okM22 : aMok iM22 := ⟨by decide +kernel, rfl, by decide +kernel, by decide +kernel, by decide +kernel, by decide, aW_t 1530 (by decide +kernel) (by decide +kernel), aW_t 15 (by decide +kernel) (by decide +kernel), Or.inr ⟨by decide, ⟨(RX13, TX13, 63), rfl, rfl⟩, aW_t 1529 (by decide +kernel) (by decide +kernel), aW_s 53 (by decide +kernel) (by decide +kernel)⟩⟩
theorem okM23 : aMok iM23 := ⟨by decide +kernel, rfl, by decide +kernel, by decide +kernel, by decide +kernel, by decide, aW_t 1494 (by decide +kernel) (by decide +kernel), aW_t 15 (by decide +kernel) (by decide +kernel), Or.inr ⟨by decide, ⟨(RX13, TX13, 63), rfl, rfl⟩, aW_t 1493 (by decide +kernel) (by decide +kernel), aW_s 49 (by decide +kernel) (by decide +kernel)⟩⟩
theorem okM24 : aMok iM24 := ⟨by decide +kernel, rfl, by decide +kernel, by decide +kernel, by decide +kernel, by decide, aW_t 1557 (by decide +kernel) (by decide +kernel), aW_t 15 (by decide +kernel) (by decide +kernel), Or.inr ⟨by decide, ⟨(RX13, TX13, 63), rfl, rfl⟩, aW_t 1556 (by decide +kernel) (by decide +kernel), aW_s 59 (by decide +kernel) (by decide +kernel)⟩⟩
theorem okM25 : aMok iM25 := ⟨by decide +kernel, rfl, by decide +kernel, by decide +kernel, by decide +kernel, by decide, aW_t 1486 (by decide +kernel) (by decide +kernel), aW_t 15 (by decide +kernel) (by decide +kernel), Or.inr ⟨by decide, ⟨(RX13, TX13, 63), rfl, rfl⟩, aW_t 1485 (by decide +kernel) (by decide +kernel), aW_s 47 (by decide +kernel) (by decide +kernel)⟩⟩
theorem okM26 : aMok iM26 := ⟨by decide +kernel, rfl, by decide +kernel, by decide +kernel, by decide +kernel, by decide, aW_t 1538 (by decide +kernel) (by decide +kernel), aW_t 15 (by decide +kernel) (by decide +kernel), Or.inr ⟨by decide, ⟨(RX13, TX13, 63), rfl, rfl⟩, aW_t 1537 (by decide +kernel) (by decide +kernel), aW_s 55 (by decide +kernel) (by decide +kernel)⟩⟩
theorem okM27 : aMok iM27 := ⟨by decide +kernel, rfl, by decide +kernel, by decide +kernel, by decide +kernel, by decide, aW_t 1553 (by decide +kernel) (by decide +kernel), aW_t 15 (by decide +kernel) (by decide +kernel), Or.inr ⟨by decide, ⟨(RX13, TX13, 63), rfl, rfl⟩, aW_t 1552 (by decide +kernel) (by decide +kernel), aW_s 58 (by decide +kernel) (by decide +kernel)⟩⟩
theorem okM28 : aMok iM28 := ⟨by decide +kernel, rfl, by decide +kernel, by decide +kernel, by decide +kernel, by decide, aW_t 1561 (by decide +kernel) (by decide +kernel), aW_t 15 (by decide +kernel) (by decide +kernel), Or.inr ⟨by decide, ⟨(RX13, TX13, 63), rfl, rfl⟩, aW_t 1560 (by decide +kernel) (by decide +kernel), aW_s 60 (by decide +kernel) (by decide +kernel)⟩⟩
theorem okM29 : aMok iM29 := ⟨by decide +kernel, rfl, by decide +kernel, by decide +kernel, by decide +kernel, by decide, aW_t 1565 (by decide +kernel) (by decide +kernel), aW_t 15 (by decide +kernel) (by decide +kernel), Or.inr ⟨by decide, ⟨(RX13, TX13, 63), rfl, rfl⟩, aW_t 1564 (by decide +kernel) (by decide +kernel), aW_s 61 (by decide +kernel) (by decide +kernel)⟩⟩
theorem okM30 : aMok iM30 := ⟨by decide +kernel, rfl, by decide +kernel, by decide +kernel, by decide +kernel, by decide, aW_t 1569 (by decide +kernel) (by decide +kernel), aW_t 15 (by decide +kernel) (by decide +kernel), Or.inr ⟨by decide, ⟨(RX13, TX13, 63), rfl, rfl⟩, aW_t 1568 (by decide +kernel) (by decide +kernel), aW_s 62 (by decide +kernel) (by decide +kernel)⟩⟩
theorem okM31 : aMok iM31 := ⟨by decide +kernel, rfl, by decide +kernel, by decide +kernel, by decide +kernel, by decide, aW_t 1467 (by decide +kernel) (by decide +kernel), aW_t 15 (by decide +kernel) (by decide +kernel), Or.inr ⟨by decide, ⟨(RX13, TX13, 63), rfl, rfl⟩, aW_t 1466 (by decide +kernel) (by decide +kernel), aW_s 43 (by decide +kernel) (by decide +kernel)⟩⟩
theorem okM32 : aMok iM32 := ⟨by decide +kernel, rfl, by decide +kernel, by decide +kernel, by decide +kernel, by decide, aW_t 1463 (by decide +kernel) (by decide +kernel), aW_t 15 (by decide +kernel) (by decide +kernel), Or.inr ⟨by decide, ⟨(RX13, TX13, 63), rfl, rfl⟩, aW_t 1462 (by decide +kernel) (by decide +kernel), aW_s 42 (by decide +kernel) (by decide +kernel)⟩⟩
theorem okM33 : aMok iM33 := ⟨by decide +kernel, rfl, by decide +kernel, by decide +kernel, by decide +kernel, by decide, aW_t 1596 (by decide +kernel) (by decide +kernel), aW_t 15 (by decide +kernel) (by decide +kernel), Or.inl ⟨rfl, aW_t 1595 (by decide +kernel) (by decide +kernel)⟩⟩
theorem okM34 : aMok iM34 := ⟨by decide +kernel, rfl, by decide +kernel, by decide +kernel, by decide +kernel, by decide, aW_t 1593 (by decide +kernel) (by decide +kernel), aW_t 15 (by decide +kernel) (by decide +kernel), Or.inr ⟨by decide, ⟨(RX13, TX13, 63), rfl, rfl⟩, aW_t 1592 (by decide +kernel) (by decide +kernel), aW_s 66 (by decide +kernel) (by decide +kernel)⟩⟩
theorem okM35 : aMok iM35 := ⟨by decide +kernel, rfl, by decide +kernel, by decide +kernel, by decide +kernel, by decide, aW_t 1683 (by decide +kernel) (by decide +kernel), aW_t 15 (by decide +kernel) (by decide +kernel), Or.inl ⟨rfl, aW_t 1682 (by decide +kernel) (by decide +kernel)⟩⟩
theorem okM36 : aMok iM36 := ⟨by decide +kernel, rfl, by decide +kernel, by decide +kernel, by decide +kernel, by decide, aW_t 1604 (by decide +kernel) (by decide +kernel), aW_t 15 (by decide +kernel) (by decide +kernel), Or.inr ⟨by decide, ⟨(RX13, TX13, 63), rfl, rfl⟩, aW_t 1603 (by decide +kernel) (by decide +kernel), aW_s 67 (by decide +kernel) (by decide +kernel)⟩⟩
theorem okM37 : aMok iM37 := ⟨by decide +kernel, rfl, by decide +kernel, by decide +kernel, by decide +kernel, by decide, aW_t 1608 (by decide +kernel) (by decide +kernel), aW_t 15 (by decide +kernel) (by decide +kernel), Or.inr ⟨by decide, ⟨(RX13, TX13, 63), rfl, rfl⟩, aW_t 1607 (by decide +kernel) (by decide +kernel), aW_s 68 (by decide +kernel) (by decide +kernel)⟩⟩
theorem okM38 : aMok iM38 := ⟨by decide +kernel, rfl, by decide +kernel, by decide +kernel, by decide +kernel, by decide, aW_t 1889 (by decide +kernel) (by decide +kernel), aW_t 15 (by decide +kernel) (by decide +kernel), Or.inr ⟨by decide, ⟨(RX13, TX13, 63), rfl, rfl⟩, aW_t 1888 (by decide +kernel) (by decide +kernel), aW_s 108 (by decide +kernel) (by decide +kernel)⟩⟩
theorem okM39 : aMok iM39 := ⟨by decide +kernel, rfl, by decide +kernel, by decide +kernel, by decide +kernel, by decide, aW_t 1255 (by decide +kernel) (by decide +kernel), aW_t 15 (by decide +kernel) (by decide +kernel), Or.inr ⟨by decide, ⟨(RX13, TX13, 63), rfl, rfl⟩, aW_t 1254 (by decide +kernel) (by decide +kernel), aW_s 41 (by decide +kernel) (by decide +kernel)⟩⟩
theorem okM40 : aMok iM40 := ⟨by decide +kernel, rfl, by decide +kernel, by decide +kernel, by decide +kernel, by decide, aW_t 1459 (by decide +kernel) (by decide +kernel), aW_t 15 (by decide +kernel) (by decide +kernel), Or.inr ⟨by decide, ⟨(RX13, TX13, 63), rfl, rfl⟩, aW_t 1457 (by decide +kernel) (by decide +kernel), aW_t 1458 (by decide +kernel) (by decide +kernel)⟩⟩
theorem okM41 : aMok iM41 := ⟨by decide +kernel, rfl, by decide +kernel, by decide +kernel, by decide +kernel, by decide, aW_t 1600 (by decide +kernel) (by decide +kernel), aW_t 15 (by decide +kernel) (by decide +kernel), Or.inr ⟨by decide, ⟨(RX13, TX13, 63), rfl, rfl⟩, aW_t 1598 (by decide +kernel) (by decide +kernel), aW_t 1599 (by decide +kernel) (by decide +kernel)⟩⟩
theorem okM42 : aMok iM42 := ⟨by decide +kernel, rfl, by decide +kernel, by decide +kernel, by decide +kernel, by decide, aW_t 1616 (by decide +kernel) (by decide +kernel), aW_t 15 (by decide +kernel) (by decide +kernel), Or.inr ⟨by decide, ⟨(RX13, TX13, 63), rfl, rfl⟩, aW_t 1615 (by decide +kernel) (by decide +kernel), aW_s 69 (by decide +kernel) (by decide +kernel)⟩⟩
theorem okM43 : aMok iM43 := ⟨by decide +kernel, rfl, by decide +kernel, by decide +kernel, by decide +kernel, by decide, aW_t 1624 (by decide +kernel) (by decide +kernel), aW_t 15 (by decide +kernel) (by decide +kernel), Or.inr ⟨by decide, ⟨(RX13, TX13, 63), rfl, rfl⟩, aW_t 1623 (by decide +kernel) (by decide +kernel), aW_s 70 (by decide +kernel) (by decide +kernel)⟩⟩
theorem okM44 : aMok iM44 := ⟨by decide +kernel, rfl, by decide +kernel, by decide +kernel, by decide +kernel, by decide, aW_t 1632 (by decide +kernel) (by decide +kernel), aW_t 15 (by decide +kernel) (by decide +kernel), Or.inr ⟨by decide, ⟨(RX13, TX13, 63), rfl, rfl⟩, aW_t 1631 (by decide +kernel) (by decide +kernel), aW_s 72 (by decide +kernel) (by decide +kernel)⟩⟩
theorem okM45 : aMok iM45 := ⟨by decide +kernel, rfl, by decide +kernel, by decide +kernel, by decide +kernel, by decide, aW_t 1640 (by decide +kernel) (by decide +kernel), aW_t 15 (by decide +kernel) (by decide +kernel), Or.inr ⟨by decide, ⟨(RX13, TX13, 63), rfl, rfl⟩, aW_t 1639 (by decide +kernel) (by decide +kernel), aW_s 74 (by decide +kernel) (by decide +kernel)⟩⟩
theorem okM46 : aMok iM46 := ⟨by decide +kernel, rfl, by decide +kernel, by decide +kernel, by decide +kernel, by decide, aW_t 1636 (by decide +kernel) (by decide +kernel), aW_t 15 (by decide +kernel) (by decide +kernel), Or.inr ⟨by decide, ⟨(RX13, TX13, 63), rfl, rfl⟩, aW_t 1635 (by decide +kernel) (by decide +kernel), aW_s 73 (by decide +kernel) (by decide +kernel)⟩⟩
theorem okM47 : aMok iM47 := ⟨by decide +kernel, rfl, by decide +kernel, by decide +kernel, by decide +kernel, by decide, aW_t 1628 (by decide +kernel) (by decide +kernel), aW_t 15 (by decide +kernel) (by decide +kernel), Or.inr ⟨by decide, ⟨(RX13, TX13, 63), rfl, rfl⟩, aW_t 1627 (by decide +kernel) (by decide +kernel), aW_s 71 (by decide +kernel) (by decide +kernel)⟩⟩
theorem okM48 : aMok iM48 := ⟨by decide +kernel, rfl, by decide +kernel, by decide +kernel, by decide +kernel, by decide, aW_t 1759 (by decide +kernel) (by decide +kernel), aW_t 15 (by decide +kernel) (by decide +kernel), Or.inr ⟨by decide, ⟨(RX13, TX13, 63), rfl, rfl⟩, aW_t 1758 (by decide +kernel) (by decide +kernel), aW_s 93 (by decide +kernel) (by decide +kernel)⟩⟩
theorem okM49 : aMok iM49 := ⟨by decide +kernel, rfl, by decide +kernel, by decide +kernel, by decide +kernel, by decide, aW_t 1695 (by decide +kernel) (by decide +kernel), aW_t 15 (by decide +kernel) (by decide +kernel), Or.inr ⟨by decide, ⟨(RX13, TX13, 63), rfl, rfl⟩, aW_t 1694 (by decide +kernel) (by decide +kernel), aW_s 83 (by decide +kernel) (by decide +kernel)⟩⟩
theorem okM50 : aMok iM50 := ⟨by decide +kernel, rfl, by decide +kernel, by decide +kernel, by decide +kernel, by decide, aW_t 1612 (by decide +kernel) (by decide +kernel), aW_t 15 (by decide +kernel) (by decide +kernel), Or.inr ⟨by decide, ⟨(RX13, TX13, 63), rfl, rfl⟩, aW_t 1610 (by decide +kernel) (by decide +kernel), aW_t 1611 (by decide +kernel) (by decide +kernel)⟩⟩
theorem okM51 : aMok iM51 := ⟨by decide +kernel, rfl, by decide +kernel, by decide +kernel, by decide +kernel, by decide, aW_t 1620 (by decide +kernel) (by decide +kernel), aW_t 15 (by decide +kernel) (by decide +kernel), Or.inr ⟨by decide, ⟨(RX13, TX13, 63), rfl, rfl⟩, aW_t 1618 (by decide +kernel) (by decide +kernel), aW_t 1619 (by decide +kernel) (by decide +kernel)⟩⟩
theorem okM52 : aMok iM52 := ⟨by decide +kernel, rfl, by decide +kernel, by decide +kernel, by decide +kernel, by decide, aW_t 1664 (by decide +kernel) (by decide +kernel), aW_t 15 (by decide +kernel) (by decide +kernel), Or.inr ⟨by decide, ⟨(RX13, TX13, 63), rfl, rfl⟩, aW_t 1662 (by decide +kernel) (by decide +kernel), aW_t 1663 (by decide +kernel) (by decide +kernel)⟩⟩
theorem okM53 : aMok iM53 := ⟨by decide +kernel, rfl, by decide +kernel, by decide +kernel, by decide +kernel, by decide, aW_t 1668 (by decide +kernel) (by decide +kernel), aW_t 15 (by decide +kernel) (by decide +kernel), Or.inr ⟨by decide, ⟨(RX13, TX13, 63), rfl, rfl⟩, aW_t 1666 (by decide +kernel) (by decide +kernel), aW_t 1667 (by decide +kernel) (by decide +kernel)⟩⟩
theorem okM54 : aMok iM54 := ⟨by decide +kernel, rfl, by decide +kernel, by decide +kernel, by decide +kernel, by decide, aW_t 1680 (by decide +kernel) (by decide +kernel), aW_t 15 (by decide +kernel) (by decide +kernel), Or.inr ⟨by decide, ⟨(RX13, TX13, 63), rfl, rfl⟩, aW_t 1679 (by decide +kernel) (by decide +kernel), aW_s 80 (by decide +kernel) (by decide +kernel)⟩⟩
theorem okM55 : aMok iM55 := ⟨by decide +kernel, rfl, by decide +kernel, by decide +kernel, by decide +kernel, by decide, aW_t 1676 (by decide +kernel) (by decide +kernel), aW_t 15 (by decide +kernel) (by decide +kernel), Or.inr ⟨by decide, ⟨(RX13, TX13, 63), rfl, rfl⟩, aW_t 1675 (by decide +kernel) (by decide +kernel), aW_s 79 (by decide +kernel) (by decide +kernel)⟩⟩
theorem okM56 : aMok iM56 := ⟨by decide +kernel, rfl, by decide +kernel, by decide +kernel, by decide +kernel, by decide, aW_t 1699 (by decide +kernel) (by decide +kernel), aW_t 15 (by decide +kernel) (by decide +kernel), Or.inr ⟨by decide, ⟨(RX13, TX13, 63), rfl, rfl⟩, aW_t 1698 (by decide +kernel) (by decide +kernel), aW_s 84 (by decide +kernel) (by decide +kernel)⟩⟩
theorem okM57 : aMok iM57 := ⟨by decide +kernel, rfl, by decide +kernel, by decide +kernel, by decide +kernel, by decide, aW_t 1691 (by decide +kernel) (by decide +kernel), aW_t 15 (by decide +kernel) (by decide +kernel), Or.inr ⟨by decide, ⟨(RX13, TX13, 63), rfl, rfl⟩, aW_t 1690 (by decide +kernel) (by decide +kernel), aW_s 82 (by decide +kernel) (by decide +kernel)⟩⟩
theorem okM58 : aMok iM58 := ⟨by decide +kernel, rfl, by decide +kernel, by decide +kernel, by decide +kernel, by decide, aW_t 1687 (by decide +kernel) (by decide +kernel), aW_t 15 (by decide +kernel) (by decide +kernel), Or.inr ⟨by decide, ⟨(RX13, TX13, 63), rfl, rfl⟩, aW_t 1686 (by decide +kernel) (by decide +kernel), aW_s 81 (by decide +kernel) (by decide +kernel)⟩⟩
theorem okM59 : aMok iM59 := ⟨by decide +kernel, rfl, by decide +kernel, by decide +kernel, by decide +kernel, by decide, aW_t 1715 (by decide +kernel) (by decide +kernel), aW_t 15 (by decide +kernel) (by decide +kernel), Or.inr ⟨by decide, ⟨(RX13, TX13, 63), rfl, rfl⟩, aW_t 1714 (by decide +kernel) (by decide +kernel), aW_s 86 (by decide +kernel) (by decide +kernel)⟩⟩
theorem okM60 : aMok iM60 := ⟨by decide +kernel, rfl, by decide +kernel, by decide +kernel, by decide +kernel, by decide, aW_t 1707 (by decide +kernel) (by decide +kernel), aW_t 15 (by decide +kernel) (by decide +kernel), Or.inr ⟨by decide, ⟨(RX13, TX13, 63), rfl, rfl⟩, aW_t 1706 (by decide +kernel) (by decide +kernel), aW_s 85 (by decide +kernel) (by decide +kernel)⟩⟩
theorem okM61 : aMok iM61 := ⟨by decide +kernel, rfl, by decide +kernel, by decide +kernel, by decide +kernel, by decide, aW_t 1672 (by decide +kernel) (by decide +kernel), aW_t 15 (by decide +kernel) (by decide +kernel), Or.inr ⟨by decide, ⟨(RX13, TX13, 63), rfl, rfl⟩, aW_t 1670 (by decide +kernel) (by decide +kernel), aW_t 1671 (by decide +kernel) (by decide +kernel)⟩⟩
theorem okM62 : aMok iM62 := ⟨by decide +kernel, rfl, by decide +kernel, by decide +kernel, by decide +kernel, by decide, aW_t 1703 (by decide +kernel) (by decide +kernel), aW_t 15 (by decide +kernel) (by decide +kernel), Or.inr ⟨by decide, ⟨(RX13, TX13, 63), rfl, rfl⟩, aW_t 1701 (by decide +kernel) (by decide +kernel), aW_t 1702 (by decide +kernel) (by decide +kernel)⟩⟩
theorem okM63 : aMok iM63 := ⟨by decide +kernel, rfl, by decide +kernel, by decide +kernel, by decide +kernel, by decide, aW_t 1711 (by decide +kernel) (by decide +kernel), aW_t 15 (by decide +kernel) (by decide +kernel), Or.inr ⟨by decide, ⟨(RX13, TX13, 63), rfl, rfl⟩, aW_t 1709 (by decide +kernel) (by decide +kernel), aW_t 1710 (by decide +kernel) (by decide +kernel)⟩⟩
theorem okM64 : aMok iM64 := ⟨by decide +kernel, rfl, by decide +kernel, by decide +kernel, by decide +kernel, by decide, aW_t 1720 (by decide +kernel) (by decide +kernel), aW_t 15 (by decide +kernel) (by decide +kernel), Or.inr ⟨by decide, ⟨(RX13, TX13, 63), rfl, rfl⟩, aW_t 1718 (by decide +kernel) (by decide +kernel), aW_t 1719 (by decide +kernel) (by decide +kernel)⟩⟩
theorem okM65 : aMok iM65 := ⟨by decide +kernel, rfl, by decide +kernel, by decide +kernel, by decide +kernel, by decide, aW_t 1740 (by decide +kernel) (by decide +kernel), aW_t 15 (by decide +kernel) (by decide +kernel), Or.inr ⟨by decide, ⟨(RX13, TX13, 63), rfl, rfl⟩, aW_t 1739 (by decide +kernel) (by decide +kernel), aW_s 90 (by decide +kernel) (by decide +kernel)⟩⟩
theorem okM66 : aMok iM66 := ⟨by decide +kernel, rfl, by decide +kernel, by decide +kernel, by decide +kernel, by decide, aW_t 1736 (by decide +kernel) (by decide +kernel), aW_t 15 (by decide +kernel) (by decide +kernel), Or.inr ⟨by decide, ⟨(RX13, TX13, 63), rfl, rfl⟩, aW_t 1735 (by decide +kernel) (by decide +kernel), aW_s 89 (by decide +kernel) (by decide +kernel)⟩⟩
theorem okM67 : aMok iM67 := ⟨by decide +kernel, rfl, by decide +kernel, by decide +kernel, by decide +kernel, by decide, aW_t 1822 (by decide +kernel) (by decide +kernel), aW_t 15 (by decide +kernel) (by decide +kernel), Or.inr ⟨by decide, ⟨(RX13, TX13, 63), rfl, rfl⟩, aW_t 1821 (by decide +kernel) (by decide +kernel), aW_s 102 (by decide +kernel) (by decide +kernel)⟩⟩
theorem okM68 : aMok iM68 := ⟨by decide +kernel, rfl, by decide +kernel, by decide +kernel, by decide +kernel, by decide, aW_t 1818 (by decide +kernel) (by decide +kernel), aW_t 15 (by decide +kernel) (by decide +kernel), Or.inr ⟨by decide, ⟨(RX13, TX13, 63), rfl, rfl⟩, aW_t 1817 (by decide +kernel) (by decide +kernel), aW_s 101 (by decide +kernel) (by decide +kernel)⟩⟩
theorem okM69 : aMok iM69 := ⟨by decide +kernel, rfl, by decide +kernel, by decide +kernel, by decide +kernel, by decide, aW_t 1728 (by decide +kernel) (by decide +kernel), aW_t 15 (by decide +kernel) (by decide +kernel), Or.inr ⟨by decide, ⟨(RX13, TX13, 63), rfl, rfl⟩, aW_t 1727 (by decide +kernel) (by decide +kernel), aW_s 87 (by decide +kernel) (by decide +kernel)⟩⟩
theorem okM70 : aMok iM70 := ⟨by decide +kernel, rfl, by decide +kernel, by decide +kernel, by decide +kernel, by decide, aW_t 1732 (by decide +kernel) (by decide +kernel), aW_t 15 (by decide +kernel) (by decide +kernel), Or.inr ⟨by decide, ⟨(RX13, TX13, 63), rfl, rfl⟩, aW_t 1731 (by decide +kernel) (by decide +kernel), aW_s 88 (by decide +kernel) (by decide +kernel)⟩⟩
theorem okM71 : aMok iM71 := ⟨by decide +kernel, rfl, by decide +kernel, by decide +kernel, by decide +kernel, by decide, aW_t 1724 (by decide +kernel) (by decide +kernel), aW_t 15 (by decide +kernel) (by decide +kernel), Or.inr ⟨by decide, ⟨(RX13, TX13, 63), rfl, rfl⟩, aW_t 1722 (by decide +kernel) (by decide +kernel), aW_t 1723 (by decide +kernel) (by decide +kernel)⟩⟩
theorem okM72 : aMok iM72 := ⟨by decide +kernel, rfl, by decide +kernel, by decide +kernel, by decide +kernel, by decide, aW_t 1755 (by decide +kernel) (by decide +kernel), aW_t 15 (by decide +kernel) (by decide +kernel), Or.inr ⟨by decide, ⟨(RX13, TX13, 63), rfl, rfl⟩, aW_t 1754 (by decide +kernel) (by decide +kernel), aW_s 92 (by decide +kernel) (by decide +kernel)⟩⟩
theorem okM73 : aMok iM73 := ⟨by decide +kernel, rfl, by decide +kernel, by decide +kernel, by decide +kernel, by decide, aW_t 1751 (by decide +kernel) (by decide +kernel), aW_t 15 (by decide +kernel) (by decide +kernel), Or.inr ⟨by decide, ⟨(RX13, TX13, 63), rfl, rfl⟩, aW_t 1750 (by decide +kernel) (by decide +kernel), aW_s 91 (by decide +kernel) (by decide +kernel)⟩⟩
theorem okM74 : aMok iM74 := ⟨by decide +kernel, rfl, by decide +kernel, by decide +kernel, by decide +kernel, by decide, aW_t 1744 (by decide +kernel) (by decide +kernel), aW_t 15 (by decide +kernel) (by decide +kernel), Or.inr ⟨by decide, ⟨(RX13, TX13, 63), rfl, rfl⟩, aW_t 1742 (by decide +kernel) (by decide +kernel), aW_t 1743 (by decide +kernel) (by decide +kernel)⟩⟩
theorem okM75 : aMok iM75 := ⟨by decide +kernel, rfl, by decide +kernel, by decide +kernel, by decide +kernel, by decide, aW_t 1776 (by decide +kernel) (by decide +kernel), aW_t 15 (by decide +kernel) (by decide +kernel), Or.inr ⟨by decide, ⟨(RX13, TX13, 63), rfl, rfl⟩, aW_t 1775 (by decide +kernel) (by decide +kernel), aW_s 96 (by decide +kernel) (by decide +kernel)⟩⟩
theorem okM76 : aMok iM76 := ⟨by decide +kernel, rfl, by decide +kernel, by decide +kernel, by decide +kernel, by decide, aW_t 1772 (by decide +kernel) (by decide +kernel), aW_t 15 (by decide +kernel) (by decide +kernel), Or.inr ⟨by decide, ⟨(RX13, TX13, 63), rfl, rfl⟩, aW_t 1771 (by decide +kernel) (by decide +kernel), aW_s 95 (by decide +kernel) (by decide +kernel)⟩⟩
theorem okM77 : aMok iM77 := ⟨by decide +kernel, rfl, by decide +kernel, by decide +kernel, by decide +kernel, by decide, aW_t 1768 (by decide +kernel) (by decide +kernel), aW_t 15 (by decide +kernel) (by decide +kernel), Or.inr ⟨by decide, ⟨(RX13, TX13, 63), rfl, rfl⟩, aW_t 1767 (by decide +kernel) (by decide +kernel), aW_s 94 (by decide +kernel) (by decide +kernel)⟩⟩
theorem okM78 : aMok iM78 := ⟨by decide +kernel, rfl, by decide +kernel, by decide +kernel, by decide +kernel, by decide, aW_t 1764 (by decide +kernel) (by decide +kernel), aW_t 15 (by decide +kernel) (by decide +kernel), Or.inr ⟨by decide, ⟨(RX13, TX13, 63), rfl, rfl⟩, aW_t 1762 (by decide +kernel) (by decide +kernel), aW_t 1763 (by decide +kernel) (by decide +kernel)⟩⟩
theorem okM79 : aMok iM79 := ⟨by decide +kernel, rfl, by decide +kernel, by decide +kernel, by decide +kernel, by decide, aW_t 1780 (by decide +kernel) (by decide +kernel), aW_t 15 (by decide +kernel) (by decide +kernel), Or.inr ⟨by decide, ⟨(RX13, TX13, 63), rfl, rfl⟩, aW_t 1778 (by decide +kernel) (by decide +kernel), aW_t 1779 (by decide +kernel) (by decide +kernel)⟩⟩
theorem okM80 : aMok iM80 := ⟨by decide +kernel, rfl, by decide +kernel, by decide +kernel, by decide +kernel, by decide, aW_t 1784 (by decide +kernel) (by decide +kernel), aW_t 15 (by decide +kernel) (by decide +kernel), Or.inr ⟨by decide, ⟨(RX13, TX13, 63), rfl, rfl⟩, aW_t 1782 (by decide +kernel) (by decide +kernel), aW_t 1783 (by decide +kernel) (by decide +kernel)⟩⟩
theorem okM81 : aMok iM81 := ⟨by decide +kernel, rfl, by decide +kernel, by decide +kernel, by decide +kernel, by decide, aW_t 1793 (by decide +kernel) (by decide +kernel), aW_t 15 (by decide +kernel) (by decide +kernel), Or.inr ⟨by decide, ⟨(RX13, TX13, 63), rfl, rfl⟩, aW_t 1792 (by decide +kernel) (by decide +kernel), aW_s 97 (by decide +kernel) (by decide +kernel)⟩⟩
theorem okM82 : aMok iM82 := ⟨by decide +kernel, rfl, by decide +kernel, by decide +kernel, by decide +kernel, by decide, aW_t 1806 (by decide +kernel) (by decide +kernel), aW_t 15 (by decide +kernel) (by decide +kernel), Or.inr ⟨by decide, ⟨(RX13, TX13, 63), rfl, rfl⟩, aW_t 1805 (by decide +kernel) (by decide +kernel), aW_s 100 (by decide +kernel) (by decide +kernel)⟩⟩
theorem okM83 : aMok iM83 := ⟨by decide +kernel, rfl, by decide +kernel, by decide +kernel, by decide +kernel, by decide, aW_t 1802 (by decide +kernel) (by decide +kernel), aW_t 15 (by decide +kernel) (by decide +kernel), Or.inr ⟨by decide, ⟨(RX13, TX13, 63), rfl, rfl⟩, aW_t 1801 (by decide +kernel) (by decide +kernel), aW_s 99 (by decide +kernel) (by decide +kernel)⟩⟩
theorem okM84 : aMok iM84 := ⟨by decide +kernel, rfl, by decide +kernel, by decide +kernel, by decide +kernel, by decide, aW_t 1798 (by decide +kernel) (by decide +kernel), aW_t 15 (by decide +kernel) (by decide +kernel), Or.inr ⟨by decide, ⟨(RX13, TX13, 63), rfl, rfl⟩, aW_t 1797 (by decide +kernel) (by decide +kernel), aW_s 98 (by decide +kernel) (by decide +kernel)⟩⟩
theorem okM85 : aMok iM85 := ⟨by decide +kernel, rfl, by decide +kernel, by decide +kernel, by decide +kernel, by decide, aW_t 1789 (by decide +kernel) (by decide +kernel), aW_t 15 (by decide +kernel) (by decide +kernel), Or.inr ⟨by decide, ⟨(RX13, TX13, 63), rfl, rfl⟩, aW_t 1787 (by decide +kernel) (by decide +kernel), aW_t 1788 (by decide +kernel) (by decide +kernel)⟩⟩
theorem okM86 : aMok iM86 := ⟨by decide +kernel, rfl, by decide +kernel, by decide +kernel, by decide +kernel, by decide, aW_t 1810 (by decide +kernel) (by decide +kernel), aW_t 15 (by decide +kernel) (by decide +kernel), Or.inr ⟨by decide, ⟨(RX13, TX13, 63), rfl, rfl⟩, aW_t 1808 (by decide +kernel) (by decide +kernel), aW_t 1809 (by decide +kernel) (by decide +kernel)⟩⟩
theorem okM87 : aMok iM87 := ⟨by decide +kernel, rfl, by decide +kernel, by decide +kernel, by decide +kernel, by decide, aW_t 1814 (by decide +kernel) (by decide +kernel), aW_t 15 (by decide +kernel) (by decide +kernel), Or.inr ⟨by decide, ⟨(RX13, TX13, 63), rfl, rfl⟩, aW_t 1812 (by decide +kernel) (by decide +kernel), aW_t 1813 (by decide +kernel) (by decide +kernel)⟩⟩
theorem okM88 : aMok iM88 := ⟨by decide +kernel, rfl, by decide +kernel, by decide +kernel, by decide +kernel, by decide, aW_t 1826 (by decide +kernel) (by decide +kernel), aW_t 15 (by decide +kernel) (by decide +kernel), Or.inr ⟨by decide, ⟨(RX13, TX13, 63), rfl, rfl⟩, aW_t 1824 (by decide +kernel) (by decide +kernel), aW_t 1825 (by decide +kernel) (by decide +kernel)⟩⟩
theorem okM89 : aMok iM89 := ⟨by decide +kernel, rfl, by decide +kernel, by decide +kernel, by decide +kernel, by decide, aW_t 1830 (by decide +kernel) (by decide +kernel), aW_t 15 (by decide +kernel) (by decide +kernel), Or.inr ⟨by decide, ⟨(RX13, TX13, 63), rfl, rfl⟩, aW_t 1828 (by decide +kernel) (by decide +kernel), aW_t 1829 (by decide +kernel) (by decide +kernel)⟩⟩
theorem okM90 : aMok iM90 := ⟨by decide +kernel, rfl, by decide +kernel, by decide +kernel, by decide +kernel, by decide, aW_t 1842 (by decide +kernel) (by decide +kernel), aW_t 15 (by decide +kernel) (by decide +kernel), Or.inr ⟨by decide, ⟨(RX13, TX13, 63), rfl, rfl⟩, aW_t 1841 (by decide +kernel) (by decide +kernel), aW_s 104 (by decide +kernel) (by decide +kernel)⟩⟩
theorem okM91 : aMok iM91 := ⟨by decide +kernel, rfl, by decide +kernel, by decide +kernel, by decide +kernel, by decide, aW_t 1838 (by decide +kernel) (by decide +kernel), aW_t 15 (by decide +kernel) (by decide +kernel), Or.inr ⟨by decide, ⟨(RX13, TX13, 63), rfl, rfl⟩, aW_t 1837 (by decide +kernel) (by decide +kernel), aW_s 103 (by decide +kernel) (by decide +kernel)⟩⟩
theorem okM92 : aMok iM92 := ⟨by decide +kernel, rfl, by decide +kernel, by decide +kernel, by decide +kernel, by decide, aW_t 1834 (by decide +kernel) (by decide +kernel), aW_t 15 (by decide +kernel) (by decide +kernel), Or.inr ⟨by decide, ⟨(RX13, TX13, 63), rfl, rfl⟩, aW_t 1832 (by decide +kernel) (by decide +kernel), aW_t 1833 (by decide +kernel) (by decide +kernel)⟩⟩
theorem okM93 : aMok iM93 := ⟨by decide +kernel, rfl, by decide +kernel, by decide +kernel, by decide +kernel, by decide, aW_t 1846 (by decide +kernel) (by decide +kernel), aW_t 15 (by decide +kernel) (by decide +kernel), Or.inr ⟨by decide, ⟨(RX13, TX13, 63), rfl, rfl⟩, aW_t 1844 (by decide +kernel) (by decide +kernel), aW_t 1845 (by decide +kernel) (by decide +kernel)⟩⟩
theorem okM94 : aMok iM94 := ⟨by decide +kernel, rfl, by decide +kernel, by decide +kernel, by decide +kernel, by decide, aW_t 1854 (by decide +kernel) (by decide +kernel), aW_t 15 (by decide +kernel) (by decide +kernel), Or.inr ⟨by decide, ⟨(RX13, TX13, 63), rfl, rfl⟩, aW_t 1853 (by decide +kernel) (by decide +kernel), aW_s 105 (by decide +kernel) (by decide +kernel)⟩⟩
theorem okM95 : aMok iM95 := ⟨by decide +kernel, rfl, by decide +kernel, by decide +kernel, by decide +kernel, by decide, aW_t 1850 (by decide +kernel) (by decide +kernel), aW_t 15 (by decide +kernel) (by decide +kernel), Or.inr ⟨by decide, ⟨(RX13, TX13, 63), rfl, rfl⟩, aW_t 1848 (by decide +kernel) (by decide +kernel), aW_t 1849 (by decide +kernel) (by decide +kernel)⟩⟩
theorem okM96 : aMok iM96 := ⟨by decide +kernel, rfl, by decide +kernel, by decide +kernel, by decide +kernel, by decide, aW_t 1858 (by decide +kernel) (by decide +kernel), aW_t 15 (by decide +kernel) (by decide +kernel), Or.inr ⟨by decide, ⟨(RX13, TX13, 63), rfl, rfl⟩, aW_t 1856 (by decide +kernel) (by decide +kernel), aW_t 1857 (by decide +kernel) (by decide +kernel)⟩⟩
theorem okM97 : aMok iM97 := ⟨by decide +kernel, rfl, by decide +kernel, by decide +kernel, by decide +kernel, by decide, aW_t 1865 (by decide +kernel) (by decide +kernel), aW_t 15 (by decide +kernel) (by decide +kernel), Or.inl ⟨rfl, aW_t 1864 (by decide +kernel) (by decide +kernel)⟩⟩
theorem okM98 : aMok iM98 := ⟨by decide +kernel, rfl, by decide +kernel, by decide +kernel, by decide +kernel, by decide, aW_t 1862 (by decide +kernel) (by decide +kernel), aW_t 15 (by decide +kernel) (by decide +kernel), Or.inr ⟨by decide, ⟨(RX13, TX13, 63), rfl, rfl⟩, aW_t 1860 (by decide +kernel) (by decide +kernel), aW_t 1861 (by decide +kernel) (by decide +kernel)⟩⟩
theorem okM99 : aMok iM99 := ⟨by decide +kernel, rfl, by decide +kernel, by decide +kernel, by decide +kernel, by decide, aW_t 1877 (by decide +kernel) (by decide +kernel), aW_t 15 (by decide +kernel) (by decide +kernel), Or.inr ⟨by decide, ⟨(RX13, TX13, 63), rfl, rfl⟩, aW_t 1876 (by decide +kernel) (by decide +kernel), aW_s 107 (by decide +kernel) (by decide +kernel)⟩⟩
theorem okM100 : aMok iM100 := ⟨by decide +kernel, rfl, by decide +kernel, by decide +kernel, by decide +kernel, by decide, aW_t 1873 (by decide +kernel) (by decide +kernel), aW_t 15 (by decide +kernel) (by decide +kernel), Or.inr ⟨by decide, ⟨(RX13, TX13, 63), rfl, rfl⟩, aW_t 1872 (by decide +kernel) (by decide +kernel), aW_s 106 (by decide +kernel) (by decide +kernel)⟩⟩
theorem okM101 : aMok iM101 := ⟨by decide +kernel, rfl, by decide +kernel, by decide +kernel, by decide +kernel, by decide, aW_t 1869 (by decide +kernel) (by decide +kernel), aW_t 15 (by decide +kernel) (by decide +kernel), Or.inr ⟨by decide, ⟨(RX13, TX13, 63), rfl, rfl⟩, aW_t 1867 (by decide +kernel) (by decide +kernel), aW_t 1868 (by decide +kernel) (by decide +kernel)⟩⟩
theorem okM102 : aMok iM102 := ⟨by decide +kernel, rfl, by decide +kernel, by decide +kernel, by decide +kernel, by decide, aW_t 1885 (by decide +kernel) (by decide +kernel), aW_t 15 (by decide +kernel) (by decide +kernel), Or.inr ⟨by decide, ⟨(RX13, TX13, 63), rfl, rfl⟩, aW_t 1883 (by decide +kernel) (by decide +kernel), aW_t 1884 (by decide +kernel) (by decide +kernel)⟩⟩
theorem okM103 : aMok iM103 := ⟨by decide +kernel, rfl, by decide +kernel, by decide +kernel, by decide +kernel, by decide, aW_t 1897 (by decide +kernel) (by decide +kernel), aW_t 15 (by decide +kernel) (by decide +kernel), Or.inr ⟨by decide, ⟨(RX13, TX13, 63), rfl, rfl⟩, aW_t 1896 (by decide +kernel) (by decide +kernel), aW_s 109 (by decide +kernel) (by decide +kernel)⟩⟩
theorem okM104 : aMok iM104 := ⟨by decide +kernel, rfl, by decide +kernel, by decide +kernel, by decide +kernel, by decide, aW_t 1893 (by decide +kernel) (by decide +kernel), aW_t 15 (by decide +kernel) (by decide +kernel), Or.inr ⟨by decide, ⟨(RX13, TX13, 63), rfl, rfl⟩, aW_t 1891 (by decide +kernel) (by decide +kernel), aW_t 1892 (by decide +kernel) (by decide +kernel)⟩⟩
theorem ltM0 : aMTok miM (11, 132, 39) := aW_t 1252 (by decide +kernel) (by decide +kernel)
theorem ltM1 : aMTok miM (11, 163, 5) := aW_t 1472 (by decide +kernel) (by decide +kernel)
theorem ltM2 : aMTok miM (11, 196, 11) := aW_t 1574 (by decide +kernel) (by decide +kernel)
theorem ltM3 : aMTok miM (11, 202, 7) := aW_t 1479 (by decide +kernel) (by decide +kernel)
theorem ltM4 : aMTok miM (11, 206, 8) := aW_t 1531 (by decide +kernel) (by decide +kernel)
theorem ltM5 : aMTok miM (11, 210, 9) := aW_t 1487 (by decide +kernel) (by decide +kernel)
theorem ltM6 : aMTok miM (11, 213, 10) := aW_t 1586 (by decide +kernel) (by decide +kernel)
theorem ltM7 : aMTok miM (11, 217, 6) := aW_t 1468 (by decide +kernel) (by decide +kernel)
theorem ltM8 : aMTok miM (11, 224, 14) := aW_t 1649 (by decide +kernel) (by decide +kernel)
theorem ltM9 : aMTok miM (11, 227, 13) := aW_t 1645 (by decide +kernel) (by decide +kernel)
theorem ltM10 : aMTok miM (11, 230, 15) := aW_t 1653 (by decide +kernel) (by decide +kernel)
theorem ltM11 : aMTok miM (11, 269, 1) := aW_t 1547 (by decide +kernel) (by decide +kernel)
theorem ltM12 : aMTok miM (11, 276, 20) := aW_t 1543 (by decide +kernel) (by decide +kernel)
theorem ltM13 : aMTok miM (11, 280, 17) := aW_t 1495 (by decide +kernel) (by decide +kernel)
theorem ltM14 : aMTok miM (11, 284, 18) := aW_t 1519 (by decide +kernel) (by decide +kernel)
theorem ltM15 : aMTok miM (11, 287, 19) := aW_t 1523 (by decide +kernel) (by decide +kernel)
theorem ltM16 : aMTok miM (11, 292, 23) := aW_t 1491 (by decide +kernel) (by decide +kernel)
theorem ltM17 : aMTok miM (11, 295, 22) := aW_t 1527 (by decide +kernel) (by decide +kernel)
theorem ltM18 : aMTok miM (11, 298, 21) := aW_t 1539 (by decide +kernel) (by decide +kernel)
theorem ltM19 : aMTok miM (11, 302, 24) := aW_t 1554 (by decide +kernel) (by decide +kernel)
theorem ltM20 : aMTok miM (11, 309, 12) := aW_t 1570 (by decide +kernel) (by decide +kernel)
theorem ltM21 : aMTok miM (11, 312, 31) := aW_t 1464 (by decide +kernel) (by decide +kernel)
theorem ltM22 : aMTok miM (11, 315, 25) := aW_t 1483 (by decide +kernel) (by decide +kernel)
theorem ltM23 : aMTok miM (11, 318, 26) := aW_t 1535 (by decide +kernel) (by decide +kernel)
theorem ltM24 : aMTok miM (11, 321, 27) := aW_t 1550 (by decide +kernel) (by decide +kernel)
theorem ltM25 : aMTok miM (11, 324, 28) := aW_t 1558 (by decide +kernel) (by decide +kernel)
theorem ltM26 : aMTok miM (11, 327, 29) := aW_t 1562 (by decide +kernel) (by decide +kernel)
theorem ltM27 : aMTok miM (11, 330, 30) := aW_t 1566 (by decide +kernel) (by decide +kernel)
theorem ltM28 : aMTok miM (11, 333, 33) := aW_t 1594 (by decide +kernel) (by decide +kernel)
theorem ltM29 : aMTok miM (11, 337, 32) := aW_t 1460 (by decide +kernel) (by decide +kernel)
theorem ltM30 : aMTok miM (11, 340, 34) := aW_t 1590 (by decide +kernel) (by decide +kernel)
theorem ltM31 : aMTok miM (11, 346, 36) := aW_t 1601 (by decide +kernel) (by decide +kernel)
theorem ltM32 : aMTok miM (11, 349, 37) := aW_t 1605 (by decide +kernel) (by decide +kernel)
theorem ltM33 : aMTok miM (11, 353, 16) := aW_t 1641 (by decide +kernel) (by decide +kernel)
theorem ltM34 : aMTok miM (11, 356, 2) := aW_t 1657 (by decide +kernel) (by decide +kernel)
theorem ltM35 : aMTok miM (11, 366, 44) := aW_t 1629 (by decide +kernel) (by decide +kernel)
theorem ltM36 : aMTok miM (11, 369, 46) := aW_t 1633 (by decide +kernel) (by decide +kernel)
theorem ltM37 : aMTok miM (11, 372, 45) := aW_t 1637 (by decide +kernel) (by decide +kernel)
theorem ltM38 : aMTok miM (11, 375, 42) := aW_t 1613 (by decide +kernel) (by decide +kernel)
theorem ltM39 : aMTok miM (11, 378, 43) := aW_t 1621 (by decide +kernel) (by decide +kernel)
theorem ltM40 : aMTok miM (11, 381, 47) := aW_t 1625 (by decide +kernel) (by decide +kernel)
theorem ltM41 : aMTok miM (11, 384, 35) := aW_t 1681 (by decide +kernel) (by decide +kernel)
theorem ltM42 : aMTok miM (11, 388, 49) := aW_t 1692 (by decide +kernel) (by decide +kernel)
theorem ltM43 : aMTok miM (11, 394, 56) := aW_t 1696 (by decide +kernel) (by decide +kernel)
theorem ltM44 : aMTok miM (11, 397, 57) := aW_t 1688 (by decide +kernel) (by decide +kernel)
theorem ltM45 : aMTok miM (11, 403, 55) := aW_t 1673 (by decide +kernel) (by decide +kernel)
theorem ltM46 : aMTok miM (11, 406, 54) := aW_t 1677 (by decide +kernel) (by decide +kernel)
theorem ltM47 : aMTok miM (11, 409, 58) := aW_t 1684 (by decide +kernel) (by decide +kernel)
theorem ltM48 : aMTok miM (11, 412, 60) := aW_t 1704 (by decide +kernel) (by decide +kernel)
theorem ltM49 : aMTok miM (11, 415, 59) := aW_t 1712 (by decide +kernel) (by decide +kernel)
theorem ltM50 : aMTok miM (11, 418, 65) := aW_t 1737 (by decide +kernel) (by decide +kernel)
theorem ltM51 : aMTok miM (11, 421, 66) := aW_t 1733 (by decide +kernel) (by decide +kernel)
theorem ltM52 : aMTok miM (11, 424, 69) := aW_t 1725 (by decide +kernel) (by decide +kernel)
theorem ltM53 : aMTok miM (11, 427, 70) := aW_t 1729 (by decide +kernel) (by decide +kernel)
theorem ltM54 : aMTok miM (11, 436, 48) := aW_t 1756 (by decide +kernel) (by decide +kernel)
theorem ltM55 : aMTok miM (11, 439, 3) := aW_t 1745 (by decide +kernel) (by decide +kernel)
theorem ltM56 : aMTok miM (11, 442, 73) := aW_t 1748 (by decide +kernel) (by decide +kernel)
theorem ltM57 : aMTok miM (11, 445, 72) := aW_t 1752 (by decide +kernel) (by decide +kernel)
theorem ltM58 : aMTok miM (11, 462, 75) := aW_t 1773 (by decide +kernel) (by decide +kernel)
theorem ltM59 : aMTok miM (11, 465, 76) := aW_t 1769 (by decide +kernel) (by decide +kernel)
theorem ltM60 : aMTok miM (11, 469, 77) := aW_t 1765 (by decide +kernel) (by decide +kernel)
theorem ltM61 : aMTok miM (11, 475, 83) := aW_t 1799 (by decide +kernel) (by decide +kernel)
theorem ltM62 : aMTok miM (11, 478, 82) := aW_t 1803 (by decide +kernel) (by decide +kernel)
theorem ltM63 : aMTok miM (11, 481, 81) := aW_t 1790 (by decide +kernel) (by decide +kernel)
theorem ltM64 : aMTok miM (11, 484, 84) := aW_t 1795 (by decide +kernel) (by decide +kernel)
theorem ltM65 : aMTok miM (11, 487, 68) := aW_t 1815 (by decide +kernel) (by decide +kernel)
theorem ltM66 : aMTok miM (11, 490, 67) := aW_t 1819 (by decide +kernel) (by decide +kernel)
theorem ltM67 : aMTok miM (11, 493, 90) := aW_t 1839 (by decide +kernel) (by decide +kernel)
theorem ltM68 : aMTok miM (11, 496, 91) := aW_t 1835 (by decide +kernel) (by decide +kernel)
theorem ltM69 : aMTok miM (11, 499, 94) := aW_t 1851 (by decide +kernel) (by decide +kernel)
theorem ltM70 : aMTok miM (11, 502, 97) := aW_t 1863 (by decide +kernel) (by decide +kernel)
theorem ltM71 : aMTok miM (11, 517, 99) := aW_t 1874 (by decide +kernel) (by decide +kernel)
theorem ltM72 : aMTok miM (11, 520, 100) := aW_t 1870 (by decide +kernel) (by decide +kernel)
theorem ltM73 : aMTok miM (11, 523, 38) := aW_t 1886 (by decide +kernel) (by decide +kernel)
theorem ltM74 : aMTok miM (11, 526, 103) := aW_t 1894 (by decide +kernel) (by decide +kernel)
set_option maxRecDepth 100000 in
theorem mtM_ok : ∀ q ∈ mtM, aMTok miM q := List.forall_mem_cons.mpr ⟨ltM0, List.forall_mem_cons.mpr ⟨ltM1, List.forall_mem_cons.mpr ⟨ltM2, List.forall_mem_cons.mpr ⟨ltM3, List.forall_mem_cons.mpr ⟨ltM4, List.forall_mem_cons.mpr ⟨ltM5, List.forall_mem_cons.mpr ⟨ltM6, List.forall_mem_cons.mpr ⟨ltM7, List.forall_mem_cons.mpr ⟨ltM8, List.forall_mem_cons.mpr ⟨ltM9, List.forall_mem_cons.mpr ⟨ltM10, List.forall_mem_cons.mpr ⟨ltM11, List.forall_mem_cons.mpr ⟨ltM12, List.forall_mem_cons.mpr ⟨ltM13, List.forall_mem_cons.mpr ⟨ltM14, List.forall_mem_cons.mpr ⟨ltM15, List.forall_mem_cons.mpr ⟨ltM16, List.forall_mem_cons.mpr ⟨ltM17, List.forall_mem_cons.mpr ⟨ltM18, List.forall_mem_cons.mpr ⟨ltM19, List.forall_mem_cons.mpr ⟨ltM20, List.forall_mem_cons.mpr ⟨ltM21, List.forall_mem_cons.mpr ⟨ltM22, List.forall_mem_cons.mpr ⟨ltM23, List.forall_mem_cons.mpr ⟨ltM24, List.forall_mem_cons.mpr ⟨ltM25, List.forall_mem_cons.mpr ⟨ltM26, List.forall_mem_cons.mpr ⟨ltM27, List.forall_mem_cons.mpr ⟨ltM28, List.forall_mem_cons.mpr ⟨ltM29, List.forall_mem_cons.mpr ⟨ltM30, List.forall_mem_cons.mpr ⟨ltM31, List.forall_mem_cons.mpr ⟨ltM32, List.forall_mem_cons.mpr ⟨ltM33, List.forall_mem_cons.mpr ⟨ltM34, List.forall_mem_cons.mpr ⟨ltM35, List.forall_mem_cons.mpr ⟨ltM36, List.forall_mem_cons.mpr ⟨ltM37, List.forall_mem_cons.mpr ⟨ltM38, List.forall_mem_cons.mpr ⟨ltM39, List.forall_mem_cons.mpr ⟨ltM40, List.forall_mem_cons.mpr ⟨ltM41, List.forall_mem_cons.mpr ⟨ltM42, List.forall_mem_cons.mpr ⟨ltM43, List.forall_mem_cons.mpr ⟨ltM44, List.forall_mem_cons.mpr ⟨ltM45, List.forall_mem_cons.mpr ⟨ltM46, List.forall_mem_cons.mpr ⟨ltM47, List.forall_mem_cons.mpr ⟨ltM48, List.forall_mem_cons.mpr ⟨ltM49, List.forall_mem_cons.mpr ⟨ltM50, List.forall_mem_cons.mpr ⟨ltM51, List.forall_mem_cons.mpr ⟨ltM52, List.forall_mem_cons.mpr ⟨ltM53, List.forall_mem_cons.mpr ⟨ltM54, List.forall_mem_cons.mpr ⟨ltM55, List.forall_mem_cons.mpr ⟨ltM56, List.forall_mem_cons.mpr ⟨ltM57, List.forall_mem_cons.mpr ⟨ltM58, List.forall_mem_cons.mpr ⟨ltM59, List.forall_mem_cons.mpr ⟨ltM60, List.forall_mem_cons.mpr ⟨ltM61, List.forall_mem_cons.mpr ⟨ltM62, List.forall_mem_cons.mpr ⟨ltM63, List.forall_mem_cons.mpr ⟨ltM64, List.forall_mem_cons.mpr ⟨ltM65, List.forall_mem_cons.mpr ⟨ltM66, List.forall_mem_cons.mpr ⟨ltM67, List.forall_mem_cons.mpr ⟨ltM68, List.forall_mem_cons.mpr ⟨ltM69, List.forall_mem_cons.mpr ⟨ltM70, List.forall_mem_cons.mpr ⟨ltM71, List.forall_mem_cons.mpr ⟨ltM72, List.forall_mem_cons.mpr ⟨ltM73, List.forall_mem_cons.mpr ⟨ltM74, fun _ h => absurd h List.not_mem_nil⟩⟩⟩⟩⟩⟩⟩⟩⟩⟩⟩⟩⟩⟩⟩⟩⟩⟩⟩⟩⟩⟩⟩⟩⟩⟩⟩⟩⟩⟩⟩⟩⟩⟩⟩⟩⟩⟩⟩⟩⟩⟩⟩⟩⟩⟩⟩⟩⟩⟩⟩⟩⟩⟩⟩⟩⟩⟩⟩⟩⟩⟩⟩⟩⟩⟩⟩⟩⟩⟩⟩⟩⟩⟩⟩
end
section
/-! the reference's rows are those of its bytecode: checked by the kernel -/
def aAll (Pr : Nat → Prop) : Nat → Prop
  | 0 => True
  | n + 1 => aAll Pr n ∧ Pr n
theorem aAll_get {Pr : Nat → Prop} : ∀ {n : Nat}, aAll Pr n → ∀ j, j < n → Pr j
  | 0, _, j, h => absurd h (Nat.not_lt_zero j)
  | n + 1, z, j, h => (Nat.lt_succ_iff_lt_or_eq.mp h).elim (fun q => aAll_get z.1 j q) (fun q => q ▸ z.2)
set_option maxRecDepth 100000 in
theorem ckM0 : ackL tbM ckpM miM nmM mtM cX13_thrown 11 rkM (some .int) kM0 kM0 = true ∧ pcO kM0 = some 0 := ⟨by decide +kernel, rfl⟩
set_option maxRecDepth 100000 in
theorem ckM1 : ackL tbM ckpM miM nmM mtM cX13_within 11 rkM (some .boolean) kM1 kM1 = true ∧ pcO kM1 = some 0 := ⟨by decide +kernel, rfl⟩
set_option maxRecDepth 100000 in
theorem ckM2 : ackL tbM ckpM miM nmM mtM cX13_between 11 rkM (some .int) kM2 kM2 = true ∧ pcO kM2 = some 0 := ⟨by decide +kernel, rfl⟩
set_option maxRecDepth 100000 in
theorem ckM3 : ackL tbM ckpM miM nmM mtM cX13_bits 11 rkM (some .int) kM3 kM3 = true ∧ pcO kM3 = some 0 := ⟨by decide +kernel, rfl⟩
set_option maxRecDepth 100000 in
theorem ckM4 : ackL tbM ckpM miM nmM mtM cX13_feed 11 rkM (some .int) kM4 kM4 = true ∧ pcO kM4 = some 0 := ⟨by decide +kernel, rfl⟩
set_option maxRecDepth 100000 in
theorem ckM5 : ackL tbM ckpM miM nmM mtM cX13_signAt 11 rkM (some .int) kM5 kM5 = true ∧ pcO kM5 = some 0 := ⟨by decide +kernel, rfl⟩
set_option maxRecDepth 100000 in
theorem ckM6 : ackL tbM ckpM miM nmM mtM cX13_nextToken 11 rkM none kM6 kM6 = true ∧ pcO kM6 = some 0 := ⟨by decide +kernel, rfl⟩
set_option maxRecDepth 100000 in
theorem ckM7 : ackL tbM ckpM miM nmM mtM cX13_isWord 11 rkM (some .boolean) kM7 kM7 = true ∧ pcO kM7 = some 0 := ⟨by decide +kernel, rfl⟩
set_option maxRecDepth 100000 in
theorem ckM8 : ackL tbM ckpM miM nmM mtM cX13_isSign 11 rkM (some .boolean) kM8 kM8 = true ∧ pcO kM8 = some 0 := ⟨by decide +kernel, rfl⟩
set_option maxRecDepth 100000 in
theorem ckM9 : ackL tbM ckpM miM nmM mtM cX13_fails 11 rkM (some .boolean) kM9 kM9 = true ∧ pcO kM9 = some 0 := ⟨by decide +kernel, rfl⟩
set_option maxRecDepth 100000 in
theorem ckM10 : ackL tbM ckpM miM nmM mtM cX13_puts 11 rkM none kM10 kM10 = true ∧ pcO kM10 = some 0 := ⟨by decide +kernel, rfl⟩
set_option maxRecDepth 100000 in
theorem ckM11 : ackL tbM ckpM miM nmM mtM cX13_fact 11 rkM (some .int) kM11 kM11 = true ∧ pcO kM11 = some 0 := ⟨by decide +kernel, rfl⟩
set_option maxRecDepth 100000 in
theorem ckM12 : ackL tbM ckpM miM nmM mtM cX13_reads 11 rkM (some .boolean) kM12 kM12 = true ∧ pcO kM12 = some 0 := ⟨by decide +kernel, rfl⟩
set_option maxRecDepth 100000 in
theorem ckM13 : ackL tbM ckpM miM nmM mtM cX13_opens 11 rkM none kM13 kM13 = true ∧ pcO kM13 = some 0 := ⟨by decide +kernel, rfl⟩
set_option maxRecDepth 100000 in
theorem ckM14 : ackL tbM ckpM miM nmM mtM cX13_sums 11 rkM none kM14 kM14 = true ∧ pcO kM14 = some 0 := ⟨by decide +kernel, rfl⟩
set_option maxRecDepth 100000 in
theorem ckM15 : ackL tbM ckpM miM nmM mtM cX13_tests 11 rkM none kM15 kM15 = true ∧ pcO kM15 = some 0 := ⟨by decide +kernel, rfl⟩
set_option maxRecDepth 100000 in
theorem ckM16 : ackL tbM ckpM miM nmM mtM cX13_worked 11 rkM (some .int) kM16 kM16 = true ∧ pcO kM16 = some 0 := ⟨by decide +kernel, rfl⟩
set_option maxRecDepth 100000 in
theorem ckM17 : ackL tbM ckpM miM nmM mtM cX13_isKept 11 rkM (some .boolean) kM17 kM17 = true ∧ pcO kM17 = some 0 := ⟨by decide +kernel, rfl⟩
set_option maxRecDepth 100000 in
theorem ckM18 : ackL tbM ckpM miM nmM mtM cX13_writerNamed 11 rkM (some .int) kM18 kM18 = true ∧ pcO kM18 = some 0 := ⟨by decide +kernel, rfl⟩
set_option maxRecDepth 100000 in
theorem ckM19 : ackL tbM ckpM miM nmM mtM cX13_wordNamed 11 rkM (some .int) kM19 kM19 = true ∧ pcO kM19 = some 0 := ⟨by decide +kernel, rfl⟩
set_option maxRecDepth 100000 in
theorem ckM20 : ackL tbM ckpM miM nmM mtM cX13_needsNumber 11 rkM (some .boolean) kM20 kM20 = true ∧ pcO kM20 = some 0 := ⟨by decide +kernel, rfl⟩
set_option maxRecDepth 100000 in
theorem ckM21 : ackL tbM ckpM miM nmM mtM cX13_needsBoth 11 rkM (some .boolean) kM21 kM21 = true ∧ pcO kM21 = some 0 := ⟨by decide +kernel, rfl⟩
set_option maxRecDepth 100000 in
theorem ckM22 : ackL tbM ckpM miM nmM mtM cX13_closes 11 rkM (some .boolean) kM22 kM22 = true ∧ pcO kM22 = some 0 := ⟨by decide +kernel, rfl⟩
set_option maxRecDepth 100000 in
theorem ckM23 : ackL tbM ckpM miM nmM mtM cX13_needsNew 11 rkM (some .boolean) kM23 kM23 = true ∧ pcO kM23 = some 0 := ⟨by decide +kernel, rfl⟩
set_option maxRecDepth 100000 in
theorem ckM24 : ackL tbM ckpM miM nmM mtM cX13_needsToldWord 11 rkM (some .boolean) kM24 kM24 = true ∧ pcO kM24 = some 0 := ⟨by decide +kernel, rfl⟩
set_option maxRecDepth 100000 in
theorem ckM25 : ackL tbM ckpM miM nmM mtM cX13_readsWriter 11 rkM (some .boolean) kM25 kM25 = true ∧ pcO kM25 = some 0 := ⟨by decide +kernel, rfl⟩
set_option maxRecDepth 100000 in
theorem ckM26 : ackL tbM ckpM miM nmM mtM cX13_readsWord 11 rkM (some .boolean) kM26 kM26 = true ∧ pcO kM26 = some 0 := ⟨by decide +kernel, rfl⟩
set_option maxRecDepth 100000 in
theorem ckM27 : ackL tbM ckpM miM nmM mtM cX13_readsLikes 11 rkM (some .boolean) kM27 kM27 = true ∧ pcO kM27 = some 0 := ⟨by decide +kernel, rfl⟩
set_option maxRecDepth 100000 in
theorem ckM28 : ackL tbM ckpM miM nmM mtM cX13_readsClash 11 rkM (some .boolean) kM28 kM28 = true ∧ pcO kM28 = some 0 := ⟨by decide +kernel, rfl⟩
set_option maxRecDepth 100000 in
theorem ckM29 : ackL tbM ckpM miM nmM mtM cX13_readsFolds 11 rkM (some .boolean) kM29 kM29 = true ∧ pcO kM29 = some 0 := ⟨by decide +kernel, rfl⟩
set_option maxRecDepth 100000 in
theorem ckM30 : ackL tbM ckpM miM nmM mtM cX13_readsLaw 11 rkM (some .boolean) kM30 kM30 = true ∧ pcO kM30 = some 0 := ⟨by decide +kernel, rfl⟩
set_option maxRecDepth 100000 in
theorem ckM31 : ackL tbM ckpM miM nmM mtM cX13_begins 11 rkM none kM31 kM31 = true ∧ pcO kM31 = some 0 := ⟨by decide +kernel, rfl⟩
set_option maxRecDepth 100000 in
theorem ckM32 : ackL tbM ckpM miM nmM mtM cX13_readsAll 11 rkM (some .boolean) kM32 kM32 = true ∧ pcO kM32 = some 0 := ⟨by decide +kernel, rfl⟩
set_option maxRecDepth 100000 in
theorem ckM33 : ackL tbM ckpM miM nmM mtM cX13_shifts 11 rkM none kM33 kM33 = true ∧ pcO kM33 = some 0 := ⟨by decide +kernel, rfl⟩
set_option maxRecDepth 100000 in
theorem ckM34 : ackL tbM ckpM miM nmM mtM cX13_lays 11 rkM none kM34 kM34 = true ∧ pcO kM34 = some 0 := ⟨by decide +kernel, rfl⟩
set_option maxRecDepth 100000 in
theorem ckM35 : ackL tbM ckpM miM nmM mtM cX13_copies 11 rkM none kM35 kM35 = true ∧ pcO kM35 = some 0 := ⟨by decide +kernel, rfl⟩
set_option maxRecDepth 100000 in
theorem ckM36 : ackL tbM ckpM miM nmM mtM cX13_readsLine 11 rkM (some .boolean) kM36 kM36 = true ∧ pcO kM36 = some 0 := ⟨by decide +kernel, rfl⟩
set_option maxRecDepth 100000 in
theorem ckM37 : ackL tbM ckpM miM nmM mtM cX13_laysLines 11 rkM none kM37 kM37 = true ∧ pcO kM37 = some 0 := ⟨by decide +kernel, rfl⟩
set_option maxRecDepth 100000 in
theorem ckM38 : ackL tbM ckpM miM nmM mtM cX13_laysRead 11 rkM none kM38 kM38 = true ∧ pcO kM38 = some 0 := ⟨by decide +kernel, rfl⟩
set_option maxRecDepth 100000 in
theorem ckM39 : ackL tbM ckpM miM nmM mtM cX13_fresh 11 rkM none kM39 kM39 = true ∧ pcO kM39 = some 0 := ⟨by decide +kernel, rfl⟩
set_option maxRecDepth 100000 in
theorem ckM40 : ackL tbM ckpM miM nmM mtM cX13_realm 11 rkM (some .int) kM40 kM40 = true ∧ pcO kM40 = some 0 := ⟨by decide +kernel, rfl⟩
set_option maxRecDepth 100000 in
theorem ckM41 : ackL tbM ckpM miM nmM mtM cX13_sundays 11 rkM (some .int) kM41 kM41 = true ∧ pcO kM41 = some 0 := ⟨by decide +kernel, rfl⟩
set_option maxRecDepth 100000 in
theorem ckM42 : ackL tbM ckpM miM nmM mtM cX13_isWriter 11 rkM (some .boolean) kM42 kM42 = true ∧ pcO kM42 = some 0 := ⟨by decide +kernel, rfl⟩
set_option maxRecDepth 100000 in
theorem ckM43 : ackL tbM ckpM miM nmM mtM cX13_isTold 11 rkM (some .boolean) kM43 kM43 = true ∧ pcO kM43 = some 0 := ⟨by decide +kernel, rfl⟩
set_option maxRecDepth 100000 in
theorem ckM44 : ackL tbM ckpM miM nmM mtM cX13_writerOf 11 rkM (some .int) kM44 kM44 = true ∧ pcO kM44 = some 0 := ⟨by decide +kernel, rfl⟩
set_option maxRecDepth 100000 in
theorem ckM45 : ackL tbM ckpM miM nmM mtM cX13_likelyBy 11 rkM (some .int) kM45 kM45 = true ∧ pcO kM45 = some 0 := ⟨by decide +kernel, rfl⟩
set_option maxRecDepth 100000 in
theorem ckM46 : ackL tbM ckpM miM nmM mtM cX13_aheadOf 11 rkM (some .int) kM46 kM46 = true ∧ pcO kM46 = some 0 := ⟨by decide +kernel, rfl⟩
set_option maxRecDepth 100000 in
theorem ckM47 : ackL tbM ckpM miM nmM mtM cX13_likelyNow 11 rkM (some .int) kM47 kM47 = true ∧ pcO kM47 = some 0 := ⟨by decide +kernel, rfl⟩
set_option maxRecDepth 100000 in
theorem ckM48 : ackL tbM ckpM miM nmM mtM cX13_allLikely 11 rkM (some .int) kM48 kM48 = true ∧ pcO kM48 = some 0 := ⟨by decide +kernel, rfl⟩
set_option maxRecDepth 100000 in
theorem ckM49 : ackL tbM ckpM miM nmM mtM cX13_doesBy 11 rkM (some .int) kM49 kM49 = true ∧ pcO kM49 = some 0 := ⟨by decide +kernel, rfl⟩
set_option maxRecDepth 100000 in
theorem ckM50 : ackL tbM ckpM miM nmM mtM cX13_writer 11 rkM (some .int) kM50 kM50 = true ∧ pcO kM50 = some 0 := ⟨by decide +kernel, rfl⟩
set_option maxRecDepth 100000 in
theorem ckM51 : ackL tbM ckpM miM nmM mtM cX13_word 11 rkM (some .int) kM51 kM51 = true ∧ pcO kM51 = some 0 := ⟨by decide +kernel, rfl⟩
set_option maxRecDepth 100000 in
theorem ckM52 : ackL tbM ckpM miM nmM mtM cX13_strip 11 rkM (some .int) kM52 kM52 = true ∧ pcO kM52 = some 0 := ⟨by decide +kernel, rfl⟩
set_option maxRecDepth 100000 in
theorem ckM53 : ackL tbM ckpM miM nmM mtM cX13_spike 11 rkM (some .int) kM53 kM53 = true ∧ pcO kM53 = some 0 := ⟨by decide +kernel, rfl⟩
set_option maxRecDepth 100000 in
theorem ckM54 : ackL tbM ckpM miM nmM mtM cX13_keeps 11 rkM none kM54 kM54 = true ∧ pcO kM54 = some 0 := ⟨by decide +kernel, rfl⟩
set_option maxRecDepth 100000 in
theorem ckM55 : ackL tbM ckpM miM nmM mtM cX13_canWrite 11 rkM (some .boolean) kM55 kM55 = true ∧ pcO kM55 = some 0 := ⟨by decide +kernel, rfl⟩
set_option maxRecDepth 100000 in
theorem ckM56 : ackL tbM ckpM miM nmM mtM cX13_fallsOff 11 rkM none kM56 kM56 = true ∧ pcO kM56 = some 0 := ⟨by decide +kernel, rfl⟩
set_option maxRecDepth 100000 in
theorem ckM57 : ackL tbM ckpM miM nmM mtM cX13_ends 11 rkM none kM57 kM57 = true ∧ pcO kM57 = some 0 := ⟨by decide +kernel, rfl⟩
set_option maxRecDepth 100000 in
theorem ckM58 : ackL tbM ckpM miM nmM mtM cX13_laysWord 11 rkM none kM58 kM58 = true ∧ pcO kM58 = some 0 := ⟨by decide +kernel, rfl⟩
set_option maxRecDepth 100000 in
theorem ckM59 : ackL tbM ckpM miM nmM mtM cX13_burns 11 rkM none kM59 kM59 = true ∧ pcO kM59 = some 0 := ⟨by decide +kernel, rfl⟩
set_option maxRecDepth 100000 in
theorem ckM60 : ackL tbM ckpM miM nmM mtM cX13_canPass 11 rkM (some .boolean) kM60 kM60 = true ∧ pcO kM60 = some 0 := ⟨by decide +kernel, rfl⟩
set_option maxRecDepth 100000 in
theorem ckM61 : ackL tbM ckpM miM nmM mtM cX13_write 11 rkM (some .int) kM61 kM61 = true ∧ pcO kM61 = some 0 := ⟨by decide +kernel, rfl⟩
set_option maxRecDepth 100000 in
theorem ckM62 : ackL tbM ckpM miM nmM mtM cX13_pass 11 rkM (some .int) kM62 kM62 = true ∧ pcO kM62 = some 0 := ⟨by decide +kernel, rfl⟩
set_option maxRecDepth 100000 in
theorem ckM63 : ackL tbM ckpM miM nmM mtM cX13_burn 11 rkM (some .int) kM63 kM63 = true ∧ pcO kM63 = some 0 := ⟨by decide +kernel, rfl⟩
set_option maxRecDepth 100000 in
theorem ckM64 : ackL tbM ckpM miM nmM mtM cX13_undo 11 rkM (some .boolean) kM64 kM64 = true ∧ pcO kM64 = some 0 := ⟨by decide +kernel, rfl⟩
set_option maxRecDepth 100000 in
theorem ckM65 : ackL tbM ckpM miM nmM mtM cX13_wordsOf 11 rkM (some .int) kM65 kM65 = true ∧ pcO kM65 = some 0 := ⟨by decide +kernel, rfl⟩
set_option maxRecDepth 100000 in
theorem ckM66 : ackL tbM ckpM miM nmM mtM cX13_doClash 11 rkM (some .boolean) kM66 kM66 = true ∧ pcO kM66 = some 0 := ⟨by decide +kernel, rfl⟩
set_option maxRecDepth 100000 in
theorem ckM67 : ackL tbM ckpM miM nmM mtM cX13_clashesOf 11 rkM (some .int) kM67 kM67 = true ∧ pcO kM67 = some 0 := ⟨by decide +kernel, rfl⟩
set_option maxRecDepth 100000 in
theorem ckM68 : ackL tbM ckpM miM nmM mtM cX13_allWholes 11 rkM (some .int) kM68 kM68 = true ∧ pcO kM68 = some 0 := ⟨by decide +kernel, rfl⟩
set_option maxRecDepth 100000 in
theorem ckM69 : ackL tbM ckpM miM nmM mtM cX13_goes 11 rkM (some .boolean) kM69 kM69 = true ∧ pcO kM69 = some 0 := ⟨by decide +kernel, rfl⟩
set_option maxRecDepth 100000 in
theorem ckM70 : ackL tbM ckpM miM nmM mtM cX13_doesLastClash 11 rkM (some .boolean) kM70 kM70 = true ∧ pcO kM70 = some 0 := ⟨by decide +kernel, rfl⟩
set_option maxRecDepth 100000 in
theorem ckM71 : ackL tbM ckpM miM nmM mtM cX13_judged 11 rkM (some .int) kM71 kM71 = true ∧ pcO kM71 = some 0 := ⟨by decide +kernel, rfl⟩
set_option maxRecDepth 100000 in
theorem ckM72 : ackL tbM ckpM miM nmM mtM cX13_goesOn 11 rkM (some .boolean) kM72 kM72 = true ∧ pcO kM72 = some 0 := ⟨by decide +kernel, rfl⟩
set_option maxRecDepth 100000 in
theorem ckM73 : ackL tbM ckpM miM nmM mtM cX13_wordIn 11 rkM (some .int) kM73 kM73 = true ∧ pcO kM73 = some 0 := ⟨by decide +kernel, rfl⟩
set_option maxRecDepth 100000 in
theorem ckM74 : ackL tbM ckpM miM nmM mtM cX13_comes 11 rkM (some .int) kM74 kM74 = true ∧ pcO kM74 = some 0 := ⟨by decide +kernel, rfl⟩
set_option maxRecDepth 100000 in
theorem ckM75 : ackL tbM ckpM miM nmM mtM cX13_endsRow 11 rkM none kM75 kM75 = true ∧ pcO kM75 = some 0 := ⟨by decide +kernel, rfl⟩
set_option maxRecDepth 100000 in
theorem ckM76 : ackL tbM ckpM miM nmM mtM cX13_rows 11 rkM none kM76 kM76 = true ∧ pcO kM76 = some 0 := ⟨by decide +kernel, rfl⟩
set_option maxRecDepth 100000 in
theorem ckM77 : ackL tbM ckpM miM nmM mtM cX13_laysRows 11 rkM none kM77 kM77 = true ∧ pcO kM77 = some 0 := ⟨by decide +kernel, rfl⟩
set_option maxRecDepth 100000 in
theorem ckM78 : ackL tbM ckpM miM nmM mtM cX13_best 11 rkM (some .int) kM78 kM78 = true ∧ pcO kM78 = some 0 := ⟨by decide +kernel, rfl⟩
set_option maxRecDepth 100000 in
theorem ckM79 : ackL tbM ckpM miM nmM mtM cX13_worst 11 rkM (some .int) kM79 kM79 = true ∧ pcO kM79 = some 0 := ⟨by decide +kernel, rfl⟩
set_option maxRecDepth 100000 in
theorem ckM80 : ackL tbM ckpM miM nmM mtM cX13_mean 11 rkM (some .int) kM80 kM80 = true ∧ pcO kM80 = some 0 := ⟨by decide +kernel, rfl⟩
set_option maxRecDepth 100000 in
theorem ckM81 : ackL tbM ckpM miM nmM mtM cX13_noneOnly 11 rkM none kM81 kM81 = true ∧ pcO kM81 = some 0 := ⟨by decide +kernel, rfl⟩
set_option maxRecDepth 100000 in
theorem ckM82 : ackL tbM ckpM miM nmM mtM cX13_goesOnAt 11 rkM (some .boolean) kM82 kM82 = true ∧ pcO kM82 = some 0 := ⟨by decide +kernel, rfl⟩
set_option maxRecDepth 100000 in
theorem ckM83 : ackL tbM ckpM miM nmM mtM cX13_sharesFrom 11 rkM none kM83 kM83 = true ∧ pcO kM83 = some 0 := ⟨by decide +kernel, rfl⟩
set_option maxRecDepth 100000 in
theorem ckM84 : ackL tbM ckpM miM nmM mtM cX13_sharesOut 11 rkM (some .int) kM84 kM84 = true ∧ pcO kM84 = some 0 := ⟨by decide +kernel, rfl⟩
set_option maxRecDepth 100000 in
theorem ckM85 : ackL tbM ckpM miM nmM mtM cX13_aim 11 rkM (some .int) kM85 kM85 = true ∧ pcO kM85 = some 0 := ⟨by decide +kernel, rfl⟩
set_option maxRecDepth 100000 in
theorem ckM86 : ackL tbM ckpM miM nmM mtM cX13_meet 11 rkM (some .int) kM86 kM86 = true ∧ pcO kM86 = some 0 := ⟨by decide +kernel, rfl⟩
set_option maxRecDepth 100000 in
theorem ckM87 : ackL tbM ckpM miM nmM mtM cX13_clashes 11 rkM (some .int) kM87 kM87 = true ∧ pcO kM87 = some 0 := ⟨by decide +kernel, rfl⟩
set_option maxRecDepth 100000 in
theorem ckM88 : ackL tbM ckpM miM nmM mtM cX13_fire 11 rkM (some .int) kM88 kM88 = true ∧ pcO kM88 = some 0 := ⟨by decide +kernel, rfl⟩
set_option maxRecDepth 100000 in
theorem ckM89 : ackL tbM ckpM miM nmM mtM cX13_read 11 rkM (some .boolean) kM89 kM89 = true ∧ pcO kM89 = some 0 := ⟨by decide +kernel, rfl⟩
set_option maxRecDepth 100000 in
theorem ckM90 : ackL tbM ckpM miM nmM mtM cX13_laysOnly 11 rkM (some .boolean) kM90 kM90 = true ∧ pcO kM90 = some 0 := ⟨by decide +kernel, rfl⟩
set_option maxRecDepth 100000 in
theorem ckM91 : ackL tbM ckpM miM nmM mtM cX13_beganBy 11 rkM (some .int) kM91 kM91 = true ∧ pcO kM91 = some 0 := ⟨by decide +kernel, rfl⟩
set_option maxRecDepth 100000 in
theorem ckM92 : ackL tbM ckpM miM nmM mtM cX13_began 11 rkM (some .int) kM92 kM92 = true ∧ pcO kM92 = some 0 := ⟨by decide +kernel, rfl⟩
set_option maxRecDepth 100000 in
theorem ckM93 : ackL tbM ckpM miM nmM mtM cX13_sure 11 rkM (some .int) kM93 kM93 = true ∧ pcO kM93 = some 0 := ⟨by decide +kernel, rfl⟩
set_option maxRecDepth 100000 in
theorem ckM94 : ackL tbM ckpM miM nmM mtM cX13_likeliest 11 rkM (some .int) kM94 kM94 = true ∧ pcO kM94 = some 0 := ⟨by decide +kernel, rfl⟩
set_option maxRecDepth 100000 in
theorem ckM95 : ackL tbM ckpM miM nmM mtM cX13_ask 11 rkM (some .int) kM95 kM95 = true ∧ pcO kM95 = some 0 := ⟨by decide +kernel, rfl⟩
set_option maxRecDepth 100000 in
theorem ckM96 : ackL tbM ckpM miM nmM mtM cX13_spent 11 rkM (some .int) kM96 kM96 = true ∧ pcO kM96 = some 0 := ⟨by decide +kernel, rfl⟩
set_option maxRecDepth 100000 in
theorem ckM97 : ackL tbM ckpM miM nmM mtM cX13_getsBy 11 rkM (some .int) kM97 kM97 = true ∧ pcO kM97 = some 0 := ⟨by decide +kernel, rfl⟩
set_option maxRecDepth 100000 in
theorem ckM98 : ackL tbM ckpM miM nmM mtM cX13_rests 11 rkM (some .int) kM98 kM98 = true ∧ pcO kM98 = some 0 := ⟨by decide +kernel, rfl⟩
set_option maxRecDepth 100000 in
theorem ckM99 : ackL tbM ckpM miM nmM mtM cX13_draws 11 rkM (some .int) kM99 kM99 = true ∧ pcO kM99 = some 0 := ⟨by decide +kernel, rfl⟩
set_option maxRecDepth 100000 in
theorem ckM100 : ackL tbM ckpM miM nmM mtM cX13_livesWord 11 rkM (some .boolean) kM100 kM100 = true ∧ pcO kM100 = some 0 := ⟨by decide +kernel, rfl⟩
set_option maxRecDepth 100000 in
theorem ckM101 : ackL tbM ckpM miM nmM mtM cX13_generations 11 rkM (some .int) kM101 kM101 = true ∧ pcO kM101 = some 0 := ⟨by decide +kernel, rfl⟩
set_option maxRecDepth 100000 in
theorem ckM102 : ackL tbM ckpM miM nmM mtM cX13_mark 11 rkM (some .boolean) kM102 kM102 = true ∧ pcO kM102 = some 0 := ⟨by decide +kernel, rfl⟩
set_option maxRecDepth 100000 in
theorem ckM103 : ackL tbM ckpM miM nmM mtM cX13_allLeft 11 rkM (some .int) kM103 kM103 = true ∧ pcO kM103 = some 0 := ⟨by decide +kernel, rfl⟩
set_option maxRecDepth 100000 in
theorem ckM104 : ackL tbM ckpM miM nmM mtM cX13_count 11 rkM (some .int) kM104 kM104 = true ∧ pcO kM104 = some 0 := ⟨by decide +kernel, rfl⟩
set_option maxRecDepth 100000 in
theorem okM : ∀ j, j < nmM → aMok (miM j) := aAll_get (n := 105) ⟨⟨⟨⟨⟨⟨⟨⟨⟨⟨⟨⟨⟨⟨⟨⟨⟨⟨⟨⟨⟨⟨⟨⟨⟨⟨⟨⟨⟨⟨⟨⟨⟨⟨⟨⟨⟨⟨⟨⟨⟨⟨⟨⟨⟨⟨⟨⟨⟨⟨⟨⟨⟨⟨⟨⟨⟨⟨⟨⟨⟨⟨⟨⟨⟨⟨⟨⟨⟨⟨⟨⟨⟨⟨⟨⟨⟨⟨⟨⟨⟨⟨⟨⟨⟨⟨⟨⟨⟨⟨⟨⟨⟨⟨⟨⟨⟨⟨⟨⟨⟨⟨⟨⟨⟨trivial, okM0⟩, okM1⟩, okM2⟩, okM3⟩, okM4⟩, okM5⟩, okM6⟩, okM7⟩, okM8⟩, okM9⟩, okM10⟩, okM11⟩, okM12⟩, okM13⟩, okM14⟩, okM15⟩, okM16⟩, okM17⟩, okM18⟩, okM19⟩, okM20⟩, okM21⟩, okM22⟩, okM23⟩, okM24⟩, okM25⟩, okM26⟩, okM27⟩, okM28⟩, okM29⟩, okM30⟩, okM31⟩, okM32⟩, okM33⟩, okM34⟩, okM35⟩, okM36⟩, okM37⟩, okM38⟩, okM39⟩, okM40⟩, okM41⟩, okM42⟩, okM43⟩, okM44⟩, okM45⟩, okM46⟩, okM47⟩, okM48⟩, okM49⟩, okM50⟩, okM51⟩, okM52⟩, okM53⟩, okM54⟩, okM55⟩, okM56⟩, okM57⟩, okM58⟩, okM59⟩, okM60⟩, okM61⟩, okM62⟩, okM63⟩, okM64⟩, okM65⟩, okM66⟩, okM67⟩, okM68⟩, okM69⟩, okM70⟩, okM71⟩, okM72⟩, okM73⟩, okM74⟩, okM75⟩, okM76⟩, okM77⟩, okM78⟩, okM79⟩, okM80⟩, okM81⟩, okM82⟩, okM83⟩, okM84⟩, okM85⟩, okM86⟩, okM87⟩, okM88⟩, okM89⟩, okM90⟩, okM91⟩, okM92⟩, okM93⟩, okM94⟩, okM95⟩, okM96⟩, okM97⟩, okM98⟩, okM99⟩, okM100⟩, okM101⟩, okM102⟩, okM103⟩, okM104⟩
set_option maxRecDepth 100000 in
theorem ckM : ∀ j, j < nmM → ackL tbM ckpM miM nmM mtM (miM j).2.1 (miM j).2.2.2.2.1 rkM (miM j).2.2.2.1 (miM j).2.2.2.2.2.2.2.2 (miM j).2.2.2.2.2.2.2.2 = true ∧ pcO (miM j).2.2.2.2.2.2.2.2 = some 0 := aAll_get (n := 105) ⟨⟨⟨⟨⟨⟨⟨⟨⟨⟨⟨⟨⟨⟨⟨⟨⟨⟨⟨⟨⟨⟨⟨⟨⟨⟨⟨⟨⟨⟨⟨⟨⟨⟨⟨⟨⟨⟨⟨⟨⟨⟨⟨⟨⟨⟨⟨⟨⟨⟨⟨⟨⟨⟨⟨⟨⟨⟨⟨⟨⟨⟨⟨⟨⟨⟨⟨⟨⟨⟨⟨⟨⟨⟨⟨⟨⟨⟨⟨⟨⟨⟨⟨⟨⟨⟨⟨⟨⟨⟨⟨⟨⟨⟨⟨⟨⟨⟨⟨⟨⟨⟨⟨⟨⟨trivial, ckM0⟩, ckM1⟩, ckM2⟩, ckM3⟩, ckM4⟩, ckM5⟩, ckM6⟩, ckM7⟩, ckM8⟩, ckM9⟩, ckM10⟩, ckM11⟩, ckM12⟩, ckM13⟩, ckM14⟩, ckM15⟩, ckM16⟩, ckM17⟩, ckM18⟩, ckM19⟩, ckM20⟩, ckM21⟩, ckM22⟩, ckM23⟩, ckM24⟩, ckM25⟩, ckM26⟩, ckM27⟩, ckM28⟩, ckM29⟩, ckM30⟩, ckM31⟩, ckM32⟩, ckM33⟩, ckM34⟩, ckM35⟩, ckM36⟩, ckM37⟩, ckM38⟩, ckM39⟩, ckM40⟩, ckM41⟩, ckM42⟩, ckM43⟩, ckM44⟩, ckM45⟩, ckM46⟩, ckM47⟩, ckM48⟩, ckM49⟩, ckM50⟩, ckM51⟩, ckM52⟩, ckM53⟩, ckM54⟩, ckM55⟩, ckM56⟩, ckM57⟩, ckM58⟩, ckM59⟩, ckM60⟩, ckM61⟩, ckM62⟩, ckM63⟩, ckM64⟩, ckM65⟩, ckM66⟩, ckM67⟩, ckM68⟩, ckM69⟩, ckM70⟩, ckM71⟩, ckM72⟩, ckM73⟩, ckM74⟩, ckM75⟩, ckM76⟩, ckM77⟩, ckM78⟩, ckM79⟩, ckM80⟩, ckM81⟩, ckM82⟩, ckM83⟩, ckM84⟩, ckM85⟩, ckM86⟩, ckM87⟩, ckM88⟩, ckM89⟩, ckM90⟩, ckM91⟩, ckM92⟩, ckM93⟩, ckM94⟩, ckM95⟩, ckM96⟩, ckM97⟩, ckM98⟩, ckM99⟩, ckM100⟩, ckM101⟩, ckM102⟩, ckM103⟩, ckM104⟩
end
section
/-! what the reference's rows say, a cut at a time: printed by a program, unfolded by Lean -/
abbrev aWM (d : Nat) : Nat → List Value → aS → (Value → aS → Prop) → Prop := aW pxM miM tbM d
def aBM (d j : Nat) (Q : Value → aS → Prop) (q : Nat) (ls : aLs) (st : List Value) (S : aS) : Prop := aP pxM tbM (aW pxM miM tbM d) (miM j).2.2.2.2.2.2.2.1 (miM j).2.2.2.2.2.2.2.2 Q q ls st S
theorem aW_in {px : aE → aLs → List Value → aS → aT} {MI : Nat → aMI} {tb : Nat → List (Int32 × Nat)} {d j : Nat} {av : List Value} {S : aS} {Q : Value → aS → Prop} (h2 : Nat.ble (alE av).length (MI j).2.2.1 = true) (h : arc (MI j).2.2.2.2.2.1 av (aP px tb (aW px MI tb d) (MI j).2.2.2.2.2.2.2.1 (MI j).2.2.2.2.2.2.2.2 Q 0 (alc av (MI j).2.2.1) [] S)) : aW px MI tb (d + 1) j av S Q := by
  unfold aW
  rw [h2]
  exact h
theorem aM_bl {Q : Value → aS → Prop} {d j q : Nat} {ls : aLs} {st : List Value} {S : aS} (h : awp pxM tbM (aW pxM miM tbM d) Q (fun q ls => aP pxM tbM (aW pxM miM tbM d) (miM j).2.2.2.2.2.2.2.1 (miM j).2.2.2.2.2.2.2.2 Q q (amk ((miM j).2.2.2.2.2.2.2.1 q) ls)) ((miM j).2.2.2.2.2.2.2.2.drop q) 0 true ls st S) : aBM d j Q q ls st S := aP_at h
set_option maxRecDepth 100000 in
/-- thrown()I -/
theorem mM_thrown {d : Nat} {Q : Value → aS → Prop}  {S : aS} (h : Q (.int (gi S 1000 0)) S) : aWM (d + 1) 0 [.ref 1000] S Q := aW_in rfl (aP_at h)
set_option maxRecDepth 100000 in
/-- within(III)Z -/
theorem mM_within {d : Nat} {Q : Value → aS → Prop} {p0 : Int32} {p1 : Int32} {p2 : Int32} {S : aS} (h : ((p0 < p1 → (((0 : Int32) = 0 ∨ (0 : Int32) = 1) ∧ Q (.int (0 : Int32)) S)) ∧ (¬ p0 < p1 → ((p2 < p0 → (((0 : Int32) = 0 ∨ (0 : Int32) = 1) ∧ Q (.int (0 : Int32)) S)) ∧ (¬ p2 < p0 → (((1 : Int32) = 0 ∨ (1 : Int32) = 1) ∧ Q (.int (1 : Int32)) S)))))) : aWM (d + 1) 1 [.int p0, .int p1, .int p2] S Q := aW_in rfl (aP_at h)
set_option maxRecDepth 100000 in
/-- between(III)I -/
theorem mM_between {d : Nat} {Q : Value → aS → Prop} {p0 : Int32} {p1 : Int32} {p2 : Int32} {S : aS} (h : ((p1 ≤ p0 → ((p0 ≤ p2 → (Q (.int p0) S)) ∧ (¬ p0 ≤ p2 → (Q (.int p2) S)))) ∧ (¬ p1 ≤ p0 → (Q (.int p1) S)))) : aWM (d + 1) 2 [.int p0, .int p1, .int p2] S Q := aW_in rfl (aP_at h)
set_option maxRecDepth 100000 in
/-- bits(I)I -/
theorem mM_bits {d : Nat} {Q : Value → aS → Prop} {p0 : Int32} {S : aS} (h : aBM d 3 Q 4 [some (.int p0), some (.int (0 : Int32)), some (.int (0 : Int32))] [] S) : aWM (d + 1) 3 [.int p0] S Q := aW_in rfl (aP_at h)
set_option maxRecDepth 100000 in
theorem bM_bits_4 {d : Nat} {Q : Value → aS → Prop} {a0 : Int32} {a1 : Int32} {a2 : Int32} {S : aS} (h : (((12 : Int32) ≤ a2 → (Q (.int a1) S)) ∧ (¬ (12 : Int32) ≤ a2 → (aBM d 3 Q 4 [some (.int a0), some (.int (a1 + ((a0 >>> (a2 &&& 31)) &&& (1 : Int32)))), some (.int (a2 + (1 : Int32)))] [] S)))) : aBM d 3 Q 4 [some (.int a0), some (.int a1), some (.int a2)] [] S := aM_bl h
set_option maxRecDepth 100000 in
/-- feed(JJJ)I -/
theorem mM_feed {d : Nat} {Q : Value → aS → Prop} {p0 : Int64} {p1 : Int64} {p2 : Int64} {S : aS} (h : aBM d 4 Q 5 [some (.ref 1000), some (.long p0), none, some (.long p1), none, some (.long p2), none, some (.int (0 : Int32)), none, none, none] [] (si S 1000 0 (0 : Int32))) : aWM (d + 1) 4 [.ref 1000, .long p0, .long p1, .long p2] S Q := aW_in rfl (aP_at h)
set_option maxRecDepth 100000 in
theorem bM_feed_5 {d : Nat} {Q : Value → aS → Prop} {a1 : Int64} {a3 : Int64} {a5 : Int64} {a7 : Int32} {S : aS} (h : (((24 : Int32) ≤ a7 → (Q (.int (gi S 1000 1)) S)) ∧ (¬ (24 : Int32) ≤ a7 → (((8 : Int32) ≤ a7 → (((16 : Int32) ≤ a7 → (aBM d 4 Q 19 [some (.ref 1000), some (.long a1), none, some (.long a3), none, some (.long a5), none, some (.int a7), none, none, none] [.long a5] S)) ∧ (¬ (16 : Int32) ≤ a7 → (aBM d 4 Q 19 [some (.ref 1000), some (.long a1), none, some (.long a3), none, some (.long a5), none, some (.int a7), none, none, none] [.long a3] S)))) ∧ (¬ (8 : Int32) ≤ a7 → (aBM d 4 Q 19 [some (.ref 1000), some (.long a1), none, some (.long a3), none, some (.long a5), none, some (.int a7), none, none, none] [.long a1] S)))))) : aBM d 4 Q 5 [some (.ref 1000), some (.long a1), none, some (.long a3), none, some (.long a5), none, some (.int a7), none, none, none] [] S := aM_bl h
set_option maxRecDepth 100000 in
theorem bM_feed_19 {d : Nat} {Q : Value → aS → Prop} {a1 : Int64} {a3 : Int64} {a5 : Int64} {a7 : Int32} {s0 : Int64} {S : aS} (h : (((1000 : Int32) ≤ (gi S 1000 1) → (aBM d 4 Q 5 [some (.ref 1000), some (.long a1), none, some (.long a3), none, some (.long a5), none, some (.int (a7 + (1 : Int32))), none, none, none] [] S)) ∧ (¬ (1000 : Int32) ≤ (gi S 1000 1) → ((((((s0.toUInt64 >>> (((56 : Int32) - ((8 : Int32) * (a7 &&& (7 : Int32)))).toInt64.toUInt64 &&& Int64.toUInt64 63)).toInt64) &&& (255 : Int64)).toInt32) = (10 : Int32) → (vp_in (gi S 1000 1) 1000 ∧ (aBM d 4 Q 5 [some (.ref 1000), some (.long a1), none, some (.long a3), none, some (.long a5), none, some (.int (a7 + (1 : Int32))), none, none, none] [] (si (sa S 1001 (gi S 1000 1).toNatClampNeg ((((s0.toUInt64 >>> (((56 : Int32) - ((8 : Int32) * (a7 &&& (7 : Int32)))).toInt64.toUInt64 &&& Int64.toUInt64 63)).toInt64) &&& (255 : Int64)).toInt32)) 1000 1 ((gi (sa S 1001 (gi S 1000 1).toNatClampNeg ((((s0.toUInt64 >>> (((56 : Int32) - ((8 : Int32) * (a7 &&& (7 : Int32)))).toInt64.toUInt64 &&& Int64.toUInt64 63)).toInt64) &&& (255 : Int64)).toInt32)) 1000 1) + (1 : Int32)))))) ∧ (¬ ((((s0.toUInt64 >>> (((56 : Int32) - ((8 : Int32) * (a7 &&& (7 : Int32)))).toInt64.toUInt64 &&& Int64.toUInt64 63)).toInt64) &&& (255 : Int64)).toInt32) = (10 : Int32) → ((((((s0.toUInt64 >>> (((56 : Int32) - ((8 : Int32) * (a7 &&& (7 : Int32)))).toInt64.toUInt64 &&& Int64.toUInt64 63)).toInt64) &&& (255 : Int64)).toInt32) < (32 : Int32) → (aBM d 4 Q 5 [some (.ref 1000), some (.long a1), none, some (.long a3), none, some (.long a5), none, some (.int (a7 + (1 : Int32))), none, none, none] [] S)) ∧ (¬ ((((s0.toUInt64 >>> (((56 : Int32) - ((8 : Int32) * (a7 &&& (7 : Int32)))).toInt64.toUInt64 &&& Int64.toUInt64 63)).toInt64) &&& (255 : Int64)).toInt32) < (32 : Int32) → (((126 : Int32) < ((((s0.toUInt64 >>> (((56 : Int32) - ((8 : Int32) * (a7 &&& (7 : Int32)))).toInt64.toUInt64 &&& Int64.toUInt64 63)).toInt64) &&& (255 : Int64)).toInt32) → (aBM d 4 Q 5 [some (.ref 1000), some (.long a1), none, some (.long a3), none, some (.long a5), none, some (.int (a7 + (1 : Int32))), none, none, none] [] S)) ∧ (¬ (126 : Int32) < ((((s0.toUInt64 >>> (((56 : Int32) - ((8 : Int32) * (a7 &&& (7 : Int32)))).toInt64.toUInt64 &&& Int64.toUInt64 63)).toInt64) &&& (255 : Int64)).toInt32) → (vp_in (gi S 1000 1) 1000 ∧ (aBM d 4 Q 5 [some (.ref 1000), some (.long a1), none, some (.long a3), none, some (.long a5), none, some (.int (a7 + (1 : Int32))), none, none, none] [] (si (sa S 1001 (gi S 1000 1).toNatClampNeg ((((s0.toUInt64 >>> (((56 : Int32) - ((8 : Int32) * (a7 &&& (7 : Int32)))).toInt64.toUInt64 &&& Int64.toUInt64 63)).toInt64) &&& (255 : Int64)).toInt32)) 1000 1 ((gi (sa S 1001 (gi S 1000 1).toNatClampNeg ((((s0.toUInt64 >>> (((56 : Int32) - ((8 : Int32) * (a7 &&& (7 : Int32)))).toInt64.toUInt64 &&& Int64.toUInt64 63)).toInt64) &&& (255 : Int64)).toInt32)) 1000 1) + (1 : Int32)))))))))))))) : aBM d 4 Q 19 [some (.ref 1000), some (.long a1), none, some (.long a3), none, some (.long a5), none, some (.int a7), none, none, none] [.long s0] S := aM_bl h
set_option maxRecDepth 100000 in
/-- signAt(I)I -/
theorem mM_signAt {d : Nat} {Q : Value → aS → Prop} {p0 : Int32} {S : aS} (h : (((gi S 1000 3) ≤ p0 → (Q (.int (0 : Int32)) S)) ∧ (¬ (gi S 1000 3) ≤ p0 → (vp_in p0 1000 ∧ (Q (.int (ga S 1001 p0.toNatClampNeg)) S))))) : aWM (d + 1) 5 [.ref 1000, .int p0] S Q := aW_in rfl (aP_at h)
set_option maxRecDepth 100000 in
/-- nextToken()V -/
theorem mM_nextToken {d : Nat} {Q : Value → aS → Prop}  {S : aS} (h : (((gi S 1000 3) ≤ (gi S 1000 4) → (aBM d 6 Q 26 [some (.ref 1000), none] [] S)) ∧ (¬ (gi S 1000 3) ≤ (gi S 1000 4) → (vp_in (gi S 1000 4) 1000 ∧ ((((ga S 1001 (gi S 1000 4).toNatClampNeg) = (32 : Int32) → (aBM d 6 Q 0 [some (.ref 1000), none] [] (si S 1000 4 ((gi S 1000 4) + (1 : Int32))))) ∧ (¬ (ga S 1001 (gi S 1000 4).toNatClampNeg) = (32 : Int32) → (vp_in (gi S 1000 4) 1000 ∧ (((¬ (ga S 1001 (gi S 1000 4).toNatClampNeg) = (10 : Int32) → (aBM d 6 Q 26 [some (.ref 1000), none] [] S)) ∧ ((ga S 1001 (gi S 1000 4).toNatClampNeg) = (10 : Int32) → (aBM d 6 Q 0 [some (.ref 1000), none] [] (si S 1000 4 ((gi S 1000 4) + (1 : Int32))))))))))))))) : aWM (d + 1) 6 [.ref 1000] S Q := aW_in rfl (aP_at h)
set_option maxRecDepth 100000 in
theorem bM_nextToken_0 {d : Nat} {Q : Value → aS → Prop}  {S : aS} (h : (((gi S 1000 3) ≤ (gi S 1000 4) → (aBM d 6 Q 26 [some (.ref 1000), none] [] S)) ∧ (¬ (gi S 1000 3) ≤ (gi S 1000 4) → (vp_in (gi S 1000 4) 1000 ∧ ((((ga S 1001 (gi S 1000 4).toNatClampNeg) = (32 : Int32) → (aBM d 6 Q 0 [some (.ref 1000), none] [] (si S 1000 4 ((gi S 1000 4) + (1 : Int32))))) ∧ (¬ (ga S 1001 (gi S 1000 4).toNatClampNeg) = (32 : Int32) → (vp_in (gi S 1000 4) 1000 ∧ (((¬ (ga S 1001 (gi S 1000 4).toNatClampNeg) = (10 : Int32) → (aBM d 6 Q 26 [some (.ref 1000), none] [] S)) ∧ ((ga S 1001 (gi S 1000 4).toNatClampNeg) = (10 : Int32) → (aBM d 6 Q 0 [some (.ref 1000), none] [] (si S 1000 4 ((gi S 1000 4) + (1 : Int32))))))))))))))) : aBM d 6 Q 0 [some (.ref 1000), none] [] S := aM_bl h
set_option maxRecDepth 100000 in
theorem bM_nextToken_26 {d : Nat} {Q : Value → aS → Prop}  {S : aS} (h : ((¬ (gi (si (sl (si S 1000 5 (gi S 1000 4)) 1000 7 (0 : Int64)) 1000 8 (0 : Int32)) 1000 4) = (gi (si (sl (si S 1000 5 (gi S 1000 4)) 1000 7 (0 : Int64)) 1000 8 (0 : Int32)) 1000 3) → (vp_in (gi (si (sl (si S 1000 5 (gi S 1000 4)) 1000 7 (0 : Int64)) 1000 8 (0 : Int32)) 1000 4) 1000 ∧ ((((ga (si (sl (si S 1000 5 (gi S 1000 4)) 1000 7 (0 : Int64)) 1000 8 (0 : Int32)) 1001 (gi (si (sl (si S 1000 5 (gi S 1000 4)) 1000 7 (0 : Int64)) 1000 8 (0 : Int32)) 1000 4).toNatClampNeg) < (97 : Int32) → (((ga (si (sl (si S 1000 5 (gi S 1000 4)) 1000 7 (0 : Int64)) 1000 8 (0 : Int32)) 1001 (gi (si (sl (si S 1000 5 (gi S 1000 4)) 1000 7 (0 : Int64)) 1000 8 (0 : Int32)) 1000 4).toNatClampNeg) < (48 : Int32) → (aBM d 6 Q 168 [some (.ref 1000), some (.int (ga (si (sl (si S 1000 5 (gi S 1000 4)) 1000 7 (0 : Int64)) 1000 8 (0 : Int32)) 1001 (gi (si (sl (si S 1000 5 (gi S 1000 4)) 1000 7 (0 : Int64)) 1000 8 (0 : Int32)) 1000 4).toNatClampNeg))] [] (si (sl (si S 1000 5 (gi S 1000 4)) 1000 7 (0 : Int64)) 1000 8 (0 : Int32)))) ∧ (¬ (ga (si (sl (si S 1000 5 (gi S 1000 4)) 1000 7 (0 : Int64)) 1000 8 (0 : Int32)) 1001 (gi (si (sl (si S 1000 5 (gi S 1000 4)) 1000 7 (0 : Int64)) 1000 8 (0 : Int32)) 1000 4).toNatClampNeg) < (48 : Int32) → (((57 : Int32) < (ga (si (sl (si S 1000 5 (gi S 1000 4)) 1000 7 (0 : Int64)) 1000 8 (0 : Int32)) 1001 (gi (si (sl (si S 1000 5 (gi S 1000 4)) 1000 7 (0 : Int64)) 1000 8 (0 : Int32)) 1000 4).toNatClampNeg) → (aBM d 6 Q 168 [some (.ref 1000), some (.int (ga (si (sl (si S 1000 5 (gi S 1000 4)) 1000 7 (0 : Int64)) 1000 8 (0 : Int32)) 1001 (gi (si (sl (si S 1000 5 (gi S 1000 4)) 1000 7 (0 : Int64)) 1000 8 (0 : Int32)) 1000 4).toNatClampNeg))] [] (si (sl (si S 1000 5 (gi S 1000 4)) 1000 7 (0 : Int64)) 1000 8 (0 : Int32)))) ∧ (¬ (57 : Int32) < (ga (si (sl (si S 1000 5 (gi S 1000 4)) 1000 7 (0 : Int64)) 1000 8 (0 : Int32)) 1001 (gi (si (sl (si S 1000 5 (gi S 1000 4)) 1000 7 (0 : Int64)) 1000 8 (0 : Int32)) 1000 4).toNatClampNeg) → (aBM d 6 Q 116 [some (.ref 1000), none] [] (si (sl (si S 1000 5 (gi S 1000 4)) 1000 7 (0 : Int64)) 1000 8 (0 : Int32)))))))) ∧ (¬ (ga (si (sl (si S 1000 5 (gi S 1000 4)) 1000 7 (0 : Int64)) 1000 8 (0 : Int32)) 1001 (gi (si (sl (si S 1000 5 (gi S 1000 4)) 1000 7 (0 : Int64)) 1000 8 (0 : Int32)) 1000 4).toNatClampNeg) < (97 : Int32) → (((122 : Int32) < (ga (si (sl (si S 1000 5 (gi S 1000 4)) 1000 7 (0 : Int64)) 1000 8 (0 : Int32)) 1001 (gi (si (sl (si S 1000 5 (gi S 1000 4)) 1000 7 (0 : Int64)) 1000 8 (0 : Int32)) 1000 4).toNatClampNeg) → (((ga (si (sl (si S 1000 5 (gi S 1000 4)) 1000 7 (0 : Int64)) 1000 8 (0 : Int32)) 1001 (gi (si (sl (si S 1000 5 (gi S 1000 4)) 1000 7 (0 : Int64)) 1000 8 (0 : Int32)) 1000 4).toNatClampNeg) < (48 : Int32) → (aBM d 6 Q 168 [some (.ref 1000), some (.int (ga (si (sl (si S 1000 5 (gi S 1000 4)) 1000 7 (0 : Int64)) 1000 8 (0 : Int32)) 1001 (gi (si (sl (si S 1000 5 (gi S 1000 4)) 1000 7 (0 : Int64)) 1000 8 (0 : Int32)) 1000 4).toNatClampNeg))] [] (si (sl (si S 1000 5 (gi S 1000 4)) 1000 7 (0 : Int64)) 1000 8 (0 : Int32)))) ∧ (¬ (ga (si (sl (si S 1000 5 (gi S 1000 4)) 1000 7 (0 : Int64)) 1000 8 (0 : Int32)) 1001 (gi (si (sl (si S 1000 5 (gi S 1000 4)) 1000 7 (0 : Int64)) 1000 8 (0 : Int32)) 1000 4).toNatClampNeg) < (48 : Int32) → (((57 : Int32) < (ga (si (sl (si S 1000 5 (gi S 1000 4)) 1000 7 (0 : Int64)) 1000 8 (0 : Int32)) 1001 (gi (si (sl (si S 1000 5 (gi S 1000 4)) 1000 7 (0 : Int64)) 1000 8 (0 : Int32)) 1000 4).toNatClampNeg) → (aBM d 6 Q 168 [some (.ref 1000), some (.int (ga (si (sl (si S 1000 5 (gi S 1000 4)) 1000 7 (0 : Int64)) 1000 8 (0 : Int32)) 1001 (gi (si (sl (si S 1000 5 (gi S 1000 4)) 1000 7 (0 : Int64)) 1000 8 (0 : Int32)) 1000 4).toNatClampNeg))] [] (si (sl (si S 1000 5 (gi S 1000 4)) 1000 7 (0 : Int64)) 1000 8 (0 : Int32)))) ∧ (¬ (57 : Int32) < (ga (si (sl (si S 1000 5 (gi S 1000 4)) 1000 7 (0 : Int64)) 1000 8 (0 : Int32)) 1001 (gi (si (sl (si S 1000 5 (gi S 1000 4)) 1000 7 (0 : Int64)) 1000 8 (0 : Int32)) 1000 4).toNatClampNeg) → (aBM d 6 Q 116 [some (.ref 1000), none] [] (si (sl (si S 1000 5 (gi S 1000 4)) 1000 7 (0 : Int64)) 1000 8 (0 : Int32)))))))) ∧ (¬ (122 : Int32) < (ga (si (sl (si S 1000 5 (gi S 1000 4)) 1000 7 (0 : Int64)) 1000 8 (0 : Int32)) 1001 (gi (si (sl (si S 1000 5 (gi S 1000 4)) 1000 7 (0 : Int64)) 1000 8 (0 : Int32)) 1000 4).toNatClampNeg) → (aBM d 6 Q 57 [some (.ref 1000), none] [] (si (sl (si S 1000 5 (gi S 1000 4)) 1000 7 (0 : Int64)) 1000 8 (0 : Int32)))))))))) ∧ ((gi (si (sl (si S 1000 5 (gi S 1000 4)) 1000 7 (0 : Int64)) 1000 8 (0 : Int32)) 1000 4) = (gi (si (sl (si S 1000 5 (gi S 1000 4)) 1000 7 (0 : Int64)) 1000 8 (0 : Int32)) 1000 3) → (Q .null (si (si (sl (si S 1000 5 (gi S 1000 4)) 1000 7 (0 : Int64)) 1000 8 (0 : Int32)) 1000 6 (0 : Int32)))))) : aBM d 6 Q 26 [some (.ref 1000), none] [] S := aM_bl h
set_option maxRecDepth 100000 in
theorem bM_nextToken_57 {d : Nat} {Q : Value → aS → Prop}  {S : aS} (h : aWM d 5 [.ref 1000, .int (gi S 1000 4)] S (fun v1 S2 => aI v1 (fun x3 => ((x3 < (97 : Int32) → (aBM d 6 Q 97 [some (.ref 1000), none] [] S2)) ∧ (¬ x3 < (97 : Int32) → (aWM d 5 [.ref 1000, .int (gi S2 1000 4)] S2 (fun v4 S5 => aI v4 (fun x6 => (((122 : Int32) < x6 → (aBM d 6 Q 97 [some (.ref 1000), none] [] S5)) ∧ (¬ (122 : Int32) < x6 → (((8 : Int32) ≤ ((gi S5 1000 4) - (gi S5 1000 5)) → (aBM d 6 Q 57 [some (.ref 1000), none] [] (si S5 1000 4 ((gi S5 1000 4) + (1 : Int32))))) ∧ (¬ (8 : Int32) ≤ ((gi S5 1000 4) - (gi S5 1000 5)) → (aWM d 5 [.ref 1000, .int (gi S5 1000 4)] S5 (fun v7 S8 => aI v7 (fun x9 => aBM d 6 Q 57 [some (.ref 1000), none] [] (si (sl S8 1000 7 ((((gl S5 1000 7) * (27 : Int64)) + x9.toInt64) - (96 : Int64))) 1000 4 ((gi (sl S8 1000 7 ((((gl S5 1000 7) * (27 : Int64)) + x9.toInt64) - (96 : Int64))) 1000 4) + (1 : Int32)))))))))))))))))) : aBM d 6 Q 57 [some (.ref 1000), none] [] S := aM_bl h
set_option maxRecDepth 100000 in
theorem bM_nextToken_97 {d : Nat} {Q : Value → aS → Prop}  {S : aS} (h : ((((gi S 1000 4) - (gi S 1000 5)) ≤ (8 : Int32) → (Q .null (si S 1000 6 (1 : Int32)))) ∧ (¬ ((gi S 1000 4) - (gi S 1000 5)) ≤ (8 : Int32) → (Q .null (si S 1000 6 (4 : Int32)))))) : aBM d 6 Q 97 [some (.ref 1000), none] [] S := aM_bl h
set_option maxRecDepth 100000 in
theorem bM_nextToken_116 {d : Nat} {Q : Value → aS → Prop}  {S : aS} (h : aWM d 5 [.ref 1000, .int (gi S 1000 4)] S (fun v1 S2 => aI v1 (fun x3 => ((x3 < (48 : Int32) → (aBM d 6 Q 155 [some (.ref 1000), none] [] S2)) ∧ (¬ x3 < (48 : Int32) → (aWM d 5 [.ref 1000, .int (gi S2 1000 4)] S2 (fun v4 S5 => aI v4 (fun x6 => (((57 : Int32) < x6 → (aBM d 6 Q 155 [some (.ref 1000), none] [] S5)) ∧ (¬ (57 : Int32) < x6 → (((4 : Int32) ≤ ((gi S5 1000 4) - (gi S5 1000 5)) → (aBM d 6 Q 116 [some (.ref 1000), none] [] (si S5 1000 4 ((gi S5 1000 4) + (1 : Int32))))) ∧ (¬ (4 : Int32) ≤ ((gi S5 1000 4) - (gi S5 1000 5)) → (aWM d 5 [.ref 1000, .int (gi S5 1000 4)] S5 (fun v7 S8 => aI v7 (fun x9 => aBM d 6 Q 116 [some (.ref 1000), none] [] (si (si S8 1000 8 ((((gi S5 1000 8) * (10 : Int32)) + x9) - (48 : Int32))) 1000 4 ((gi (si S8 1000 8 ((((gi S5 1000 8) * (10 : Int32)) + x9) - (48 : Int32))) 1000 4) + (1 : Int32)))))))))))))))))) : aBM d 6 Q 116 [some (.ref 1000), none] [] S := aM_bl h
set_option maxRecDepth 100000 in
theorem bM_nextToken_155 {d : Nat} {Q : Value → aS → Prop}  {S : aS} (h : ((((gi S 1000 4) - (gi S 1000 5)) ≤ (4 : Int32) → (Q .null (si S 1000 6 (2 : Int32)))) ∧ (¬ ((gi S 1000 4) - (gi S 1000 5)) ≤ (4 : Int32) → (Q .null (si S 1000 6 (4 : Int32)))))) : aBM d 6 Q 155 [some (.ref 1000), none] [] S := aM_bl h
set_option maxRecDepth 100000 in
theorem bM_nextToken_168 {d : Nat} {Q : Value → aS → Prop} {a1 : Int32} {S : aS} (h : ((a1 < (40 : Int32) → (aBM d 6 Q 181 [none, some (.int a1)] [.ref 1000] (si S 1000 4 ((gi S 1000 4) + (1 : Int32))))) ∧ (¬ a1 < (40 : Int32) → ((a1 ≤ (43 : Int32) → (Q .null (si (si S 1000 4 ((gi S 1000 4) + (1 : Int32))) 1000 6 (3 : Int32)))) ∧ (¬ a1 ≤ (43 : Int32) → (aBM d 6 Q 181 [none, some (.int a1)] [.ref 1000] (si S 1000 4 ((gi S 1000 4) + (1 : Int32))))))))) : aBM d 6 Q 168 [some (.ref 1000), some (.int a1)] [] S := aM_bl h
set_option maxRecDepth 100000 in
theorem bM_nextToken_181 {d : Nat} {Q : Value → aS → Prop} {a1 : Int32} {s0 : Nat} {S : aS} (h : ((a1 = (45 : Int32) → (aG (gK s0 11) (Q .null (si S s0 6 (3 : Int32))))) ∧ (¬ a1 = (45 : Int32) → ((a1 < (59 : Int32) → (aG (gK s0 11) (Q .null (si S s0 6 (4 : Int32))))) ∧ (¬ a1 < (59 : Int32) → (((61 : Int32) < a1 → (aG (gK s0 11) (Q .null (si S s0 6 (4 : Int32))))) ∧ (¬ (61 : Int32) < a1 → (aG (gK s0 11) (Q .null (si S s0 6 (3 : Int32))))))))))) : aBM d 6 Q 181 [none, some (.int a1)] [.ref s0] S := aM_bl h
set_option maxRecDepth 100000 in
/-- isWord(J)Z -/
theorem mM_isWord {d : Nat} {Q : Value → aS → Prop} {p0 : Int64} {S : aS} (h : ((¬ (gi S 1000 6) = (1 : Int32) → (((0 : Int32) = 0 ∨ (0 : Int32) = 1) ∧ Q (.int (0 : Int32)) S)) ∧ ((gi S 1000 6) = (1 : Int32) → ((¬ (lg_cmp (gl S 1000 7) p0) = 0 → (((0 : Int32) = 0 ∨ (0 : Int32) = 1) ∧ Q (.int (0 : Int32)) S)) ∧ ((lg_cmp (gl S 1000 7) p0) = 0 → (((1 : Int32) = 0 ∨ (1 : Int32) = 1) ∧ Q (.int (1 : Int32)) S)))))) : aWM (d + 1) 7 [.ref 1000, .long p0] S Q := aW_in rfl (aP_at h)
set_option maxRecDepth 100000 in
/-- isSign(I)Z -/
theorem mM_isSign {d : Nat} {Q : Value → aS → Prop} {p0 : Int32} {S : aS} (h : ((¬ (gi S 1000 6) = (3 : Int32) → (((0 : Int32) = 0 ∨ (0 : Int32) = 1) ∧ Q (.int (0 : Int32)) S)) ∧ ((gi S 1000 6) = (3 : Int32) → (vp_in (gi S 1000 5) 1000 ∧ (((¬ (ga S 1001 (gi S 1000 5).toNatClampNeg) = p0 → (((0 : Int32) = 0 ∨ (0 : Int32) = 1) ∧ Q (.int (0 : Int32)) S)) ∧ ((ga S 1001 (gi S 1000 5).toNatClampNeg) = p0 → (((1 : Int32) = 0 ∨ (1 : Int32) = 1) ∧ Q (.int (1 : Int32)) S)))))))) : aWM (d + 1) 8 [.ref 1000, .int p0] S Q := aW_in rfl (aP_at h)
set_option maxRecDepth 100000 in
/-- fails(I)Z -/
theorem mM_fails {d : Nat} {Q : Value → aS → Prop} {p0 : Int32} {S : aS} (h : ((0 : Int32) = 0 ∨ (0 : Int32) = 1) ∧ Q (.int (0 : Int32)) (si S 1000 9 (p0 + ((16 : Int32) * (gi S 1000 5))))) : aWM (d + 1) 9 [.ref 1000, .int p0] S Q := aW_in rfl (aP_at h)
set_option maxRecDepth 100000 in
/-- puts(I)V -/
theorem mM_puts {d : Nat} {Q : Value → aS → Prop} {p0 : Int32} {S : aS} (h : vp_in (gi S 1000 23) 2000 ∧ (Q .null (si (sa S 1014 (gi S 1000 23).toNatClampNeg p0) 1000 23 ((gi (sa S 1014 (gi S 1000 23).toNatClampNeg p0) 1000 23) + (1 : Int32))))) : aWM (d + 1) 10 [.ref 1000, .int p0] S Q := aW_in rfl (aP_at h)
set_option maxRecDepth 100000 in
/-- fact()I -/
theorem mM_fact {d : Nat} {Q : Value → aS → Prop}  {S : aS} (h : (((gi S 1000 6) = (1 : Int32) → ((¬ (gi S 1000 24) = (1 : Int32) → ((¬ (lg_cmp (gl S 1000 7) (4351291 : Int64)) = 0 → ((¬ (lg_cmp (gl S 1000 7) (129415 : Int64)) = 0 → ((¬ (lg_cmp (gl S 1000 7) (10354323 : Int64)) = 0 → ((¬ (lg_cmp (gl S 1000 7) (267305 : Int64)) = 0 → ((¬ (lg_cmp (gl S 1000 7) (692581 : Int64)) = 0 → (Q (.int (0 : Int32)) S)) ∧ ((lg_cmp (gl S 1000 7) (692581 : Int64)) = 0 → (Q (.int (5 : Int32)) S)))) ∧ ((lg_cmp (gl S 1000 7) (267305 : Int64)) = 0 → (Q (.int (4 : Int32)) S)))) ∧ ((lg_cmp (gl S 1000 7) (10354323 : Int64)) = 0 → (Q (.int (3 : Int32)) S)))) ∧ ((lg_cmp (gl S 1000 7) (129415 : Int64)) = 0 → (Q (.int (2 : Int32)) S)))) ∧ ((lg_cmp (gl S 1000 7) (4351291 : Int64)) = 0 → (Q (.int (1 : Int32)) S)))) ∧ ((gi S 1000 24) = (1 : Int32) → ((¬ (lg_cmp (gl S 1000 7) (14431 : Int64)) = 0 → ((¬ (lg_cmp (gl S 1000 7) (267347 : Int64)) = 0 → ((¬ (lg_cmp (gl S 1000 7) (281317594 : Int64)) = 0 → (Q (.int (0 : Int32)) S)) ∧ ((lg_cmp (gl S 1000 7) (281317594 : Int64)) = 0 → (Q (.int (8 : Int32)) S)))) ∧ ((lg_cmp (gl S 1000 7) (267347 : Int64)) = 0 → (Q (.int (7 : Int32)) S)))) ∧ ((lg_cmp (gl S 1000 7) (14431 : Int64)) = 0 → (Q (.int (6 : Int32)) S)))))) ∧ (¬ (gi S 1000 6) = (1 : Int32) → (Q (.int (0 : Int32)) S)))) : aWM (d + 1) 11 [.ref 1000] S Q := aW_in rfl (aP_at h)
set_option maxRecDepth 100000 in
/-- reads()Z -/
theorem mM_reads {d : Nat} {Q : Value → aS → Prop}  {S : aS} (h : vp_in (0 : Int32) 7 ∧ (aBM d 12 Q 9 [some (.ref 1000), some (.int (0 : Int32)), some (.int (1 : Int32)), none, none, none] [] (sa S 1016 (0 : Int32).toNatClampNeg (vp_nar .boolean (0 : Int32))))) : aWM (d + 1) 12 [.ref 1000] S Q := aW_in rfl (aP_at h)
set_option maxRecDepth 100000 in
theorem bM_reads_9 {d : Nat} {Q : Value → aS → Prop} {a1 : Int32} {a2 : Int32} {S : aS} (h : ((a2 = 0 → (aWM d 8 [.ref 1000, .int (43 : Int32)] S (fun v1 S2 => aI v1 (fun x3 => ((¬ x3 = 0 → (aBM d 12 Q 107 [some (.ref 1000), some (.int a1), none, none, none, none] [] S2)) ∧ (x3 = 0 → (aWM d 8 [.ref 1000, .int (45 : Int32)] S2 (fun v4 S5 => aI v4 (fun x6 => ((¬ x6 = 0 → (aBM d 12 Q 107 [some (.ref 1000), some (.int a1), none, none, none, none] [] S5)) ∧ (x6 = 0 → (aWM d 8 [.ref 1000, .int (42 : Int32)] S5 (fun v7 S8 => aI v7 (fun x9 => ((x9 = 0 → (aWM d 8 [.ref 1000, .int (60 : Int32)] S8 (fun v10 S11 => aI v10 (fun x12 => ((¬ x12 = 0 → (aBM d 12 Q 133 [some (.ref 1000), some (.int a1), some (.int a2), none, none, none] [] S11)) ∧ (x12 = 0 → (aWM d 8 [.ref 1000, .int (61 : Int32)] S11 (fun v13 S14 => aI v13 (fun x15 => ((x15 = 0 → (aBM d 12 Q 155 [some (.ref 1000), some (.int a1), some (.int a2), none, none, none] [] S14)) ∧ (¬ x15 = 0 → (aBM d 12 Q 133 [some (.ref 1000), some (.int a1), some (.int a2), none, none, none] [] S14)))))))))))) ∧ (¬ x9 = 0 → (aBM d 12 Q 107 [some (.ref 1000), some (.int a1), none, none, none, none] [] S8))))))))))))))))) ∧ (¬ a2 = 0 → (aWM d 11 [.ref 1000] S (fun v16 S17 => aI v16 (fun x18 => aWM d 7 [.ref 1000, .long (10631 : Int64)] S17 (fun v19 S20 => aI v19 (fun x21 => aWM d 8 [.ref 1000, .int (40 : Int32)] S20 (fun v22 S23 => aI v22 (fun x24 => ((¬ x18 = 0 → (aBM d 12 Q 36 [some (.ref 1000), some (.int a1), some (.int a2), some (.int x18), some (.int x21), some (.int x24)] [] S23)) ∧ (x18 = 0 → ((¬ x21 = 0 → (aBM d 12 Q 36 [some (.ref 1000), some (.int a1), some (.int a2), some (.int x18), some (.int x21), some (.int x24)] [] S23)) ∧ (x21 = 0 → ((¬ x24 = 0 → (aBM d 12 Q 36 [some (.ref 1000), some (.int a1), some (.int a2), some (.int x18), some (.int x21), some (.int x24)] [] S23)) ∧ (x24 = 0 → (((gi S23 1000 6) = (2 : Int32) → (aBM d 12 Q 36 [some (.ref 1000), some (.int a1), some (.int a2), some (.int x18), some (.int x21), some (.int x24)] [] S23)) ∧ (¬ (gi S23 1000 6) = (2 : Int32) → (aWM d 9 [.ref 1000, .int (1 : Int32)] S23 (fun v25 S26 => aI v25 (fun x27 => (x27 = 0 ∨ x27 = 1) ∧ Q (.int x27) S26))))))))))))))))))))) : aBM d 12 Q 9 [some (.ref 1000), some (.int a1), some (.int a2), none, none, none] [] S := aM_bl h
set_option maxRecDepth 100000 in
theorem bM_reads_36 {d : Nat} {Q : Value → aS → Prop} {a1 : Int32} {a2 : Int32} {a3 : Int32} {a4 : Int32} {a5 : Int32} {S : aS} (h : ((¬ a1 = (5 : Int32) → ((¬ a4 = 0 → ((a4 = 0 → (aBM d 12 Q 53 [some (.ref 1000), some (.int a1), some (.int a2), none, some (.int a4), none] [.int (28 : Int32), .ref 1000] S)) ∧ (¬ a4 = 0 → (aBM d 12 Q 53 [some (.ref 1000), some (.int a1), some (.int a2), none, some (.int a4), none] [.int (30 : Int32), .ref 1000] S)))) ∧ (a4 = 0 → ((a5 = 0 → ((a3 ≤ 0 → (aWM d 10 [.ref 1000, .int ((100 : Int32) + (gi S 1000 8))] S (fun v1 S2 => aV v1 (aBM d 12 Q 82 [some (.ref 1000), some (.int a1), some (.int (0 : Int32)), none, none, none] [] S2)))) ∧ (¬ a3 ≤ 0 → (aWM d 10 [.ref 1000, .int a3] S (fun v3 S4 => aV v3 (aBM d 12 Q 82 [some (.ref 1000), some (.int a1), some (.int (0 : Int32)), none, none, none] [] S4)))))) ∧ (¬ a5 = 0 → ((a4 = 0 → (aBM d 12 Q 53 [some (.ref 1000), some (.int a1), some (.int a2), none, some (.int a4), none] [.int (28 : Int32), .ref 1000] S)) ∧ (¬ a4 = 0 → (aBM d 12 Q 53 [some (.ref 1000), some (.int a1), some (.int a2), none, some (.int a4), none] [.int (30 : Int32), .ref 1000] S)))))))) ∧ (a1 = (5 : Int32) → (aWM d 9 [.ref 1000, .int (5 : Int32)] S (fun v5 S6 => aI v5 (fun x7 => (x7 = 0 ∨ x7 = 1) ∧ Q (.int x7) S6)))))) : aBM d 12 Q 36 [some (.ref 1000), some (.int a1), some (.int a2), some (.int a3), some (.int a4), some (.int a5)] [] S := aM_bl h
set_option maxRecDepth 100000 in
theorem bM_reads_53 {d : Nat} {Q : Value → aS → Prop} {a1 : Int32} {a2 : Int32} {a4 : Int32} {s0 : Nat} {s1 : Int32} {S : aS} (h : aWM d 10 [.ref s0, .int s1] S (fun v1 S2 => aV v1 (((a4 = 0 → (vp_in (a1 + (1 : Int32)) 7 ∧ (vp_in (a1 + (1 : Int32)) 7 ∧ (aWM d 6 [.ref 1000] (sa (sa S2 1015 (a1 + (1 : Int32)).toNatClampNeg (2 : Int32)) 1016 (a1 + (1 : Int32)).toNatClampNeg (vp_nar .boolean (0 : Int32))) (fun v3 S4 => aV v3 (aBM d 12 Q 9 [some (.ref 1000), some (.int (a1 + (1 : Int32))), some (.int a2), none, none, none] [] S4)))))) ∧ (¬ a4 = 0 → (vp_in (a1 + (1 : Int32)) 7 ∧ (vp_in (a1 + (1 : Int32)) 7 ∧ (aWM d 6 [.ref 1000] (sa (sa S2 1015 (a1 + (1 : Int32)).toNatClampNeg (1 : Int32)) 1016 (a1 + (1 : Int32)).toNatClampNeg (vp_nar .boolean (0 : Int32))) (fun v5 S6 => aV v5 (aBM d 12 Q 9 [some (.ref 1000), some (.int (a1 + (1 : Int32))), some (.int a2), none, none, none] [] S6)))))))))) : aBM d 12 Q 53 [some (.ref 1000), some (.int a1), some (.int a2), none, some (.int a4), none] [.int s1, .ref s0] S := aM_bl h
set_option maxRecDepth 100000 in
theorem bM_reads_82 {d : Nat} {Q : Value → aS → Prop} {a1 : Int32} {a2 : Int32} {S : aS} (h : ((a1 ≤ 0 → (aWM d 6 [.ref 1000] S (fun v1 S2 => aV v1 (aBM d 12 Q 9 [some (.ref 1000), some (.int a1), some (.int a2), none, none, none] [] S2)))) ∧ (¬ a1 ≤ 0 → (vp_in a1 7 ∧ (((¬ (ga S 1015 a1.toNatClampNeg) = (1 : Int32) → (aWM d 6 [.ref 1000] S (fun v3 S4 => aV v3 (aBM d 12 Q 9 [some (.ref 1000), some (.int a1), some (.int a2), none, none, none] [] S4)))) ∧ ((ga S 1015 a1.toNatClampNeg) = (1 : Int32) → (aBM d 12 Q 82 [some (.ref 1000), some (.int (a1 + (-1 : Int32))), some (.int a2), none, none, none] [] S)))))))) : aBM d 12 Q 82 [some (.ref 1000), some (.int a1), some (.int a2), none, none, none] [] S := aM_bl h
set_option maxRecDepth 100000 in
theorem bM_reads_107 {d : Nat} {Q : Value → aS → Prop} {a1 : Int32} {S : aS} (h : aWM d 8 [.ref 1000, .int (43 : Int32)] S (fun v1 S2 => aI v1 (fun x3 => ((x3 = 0 → (aWM d 8 [.ref 1000, .int (45 : Int32)] S2 (fun v4 S5 => aI v4 (fun x6 => ((x6 = 0 → (aWM d 10 [.ref 1000, .int (22 : Int32)] S5 (fun v7 S8 => aV v7 (aWM d 6 [.ref 1000] S8 (fun v9 S10 => aV v9 (aBM d 12 Q 9 [some (.ref 1000), some (.int a1), some (.int (1 : Int32)), none, none, none] [] S10)))))) ∧ (¬ x6 = 0 → (aWM d 10 [.ref 1000, .int (21 : Int32)] S5 (fun v11 S12 => aV v11 (aWM d 6 [.ref 1000] S12 (fun v13 S14 => aV v13 (aBM d 12 Q 9 [some (.ref 1000), some (.int a1), some (.int (1 : Int32)), none, none, none] [] S14))))))))))) ∧ (¬ x3 = 0 → (aWM d 10 [.ref 1000, .int (20 : Int32)] S2 (fun v15 S16 => aV v15 (aWM d 6 [.ref 1000] S16 (fun v17 S18 => aV v17 (aBM d 12 Q 9 [some (.ref 1000), some (.int a1), some (.int (1 : Int32)), none, none, none] [] S18)))))))))) : aBM d 12 Q 107 [some (.ref 1000), some (.int a1), none, none, none, none] [] S := aM_bl h
set_option maxRecDepth 100000 in
theorem bM_reads_133 {d : Nat} {Q : Value → aS → Prop} {a1 : Int32} {a2 : Int32} {S : aS} (h : vp_in a1 7 ∧ (((¬ (ga S 1016 a1.toNatClampNeg) = 0 → (aBM d 12 Q 155 [some (.ref 1000), some (.int a1), some (.int a2), none, none, none] [] S)) ∧ ((ga S 1016 a1.toNatClampNeg) = 0 → (aWM d 8 [.ref 1000, .int (60 : Int32)] S (fun v1 S2 => aI v1 (fun x3 => ((x3 = 0 → (aWM d 10 [.ref 1000, .int (25 : Int32)] S2 (fun v4 S5 => aV v4 (vp_in a1 7 ∧ (aWM d 6 [.ref 1000] (sa S5 1016 a1.toNatClampNeg (vp_nar .boolean (1 : Int32))) (fun v6 S7 => aV v6 (aBM d 12 Q 9 [some (.ref 1000), some (.int a1), some (.int (1 : Int32)), none, none, none] [] S7))))))) ∧ (¬ x3 = 0 → (aWM d 10 [.ref 1000, .int (24 : Int32)] S2 (fun v8 S9 => aV v8 (vp_in a1 7 ∧ (aWM d 6 [.ref 1000] (sa S9 1016 a1.toNatClampNeg (vp_nar .boolean (1 : Int32))) (fun v10 S11 => aV v10 (aBM d 12 Q 9 [some (.ref 1000), some (.int a1), some (.int (1 : Int32)), none, none, none] [] S11))))))))))))))) : aBM d 12 Q 133 [some (.ref 1000), some (.int a1), some (.int a2), none, none, none] [] S := aM_bl h
set_option maxRecDepth 100000 in
theorem bM_reads_155 {d : Nat} {Q : Value → aS → Prop} {a1 : Int32} {a2 : Int32} {S : aS} (h : aWM d 7 [.ref 1000, .long (1111 : Int64)] S (fun v1 S2 => aI v1 (fun x3 => ((¬ x3 = 0 → (aBM d 12 Q 163 [some (.ref 1000), some (.int a1), none, none, none, none] [] S2)) ∧ (x3 = 0 → (aWM d 7 [.ref 1000, .long (423 : Int64)] S2 (fun v4 S5 => aI v4 (fun x6 => ((x6 = 0 → (aWM d 8 [.ref 1000, .int (41 : Int32)] S5 (fun v7 S8 => aI v7 (fun x9 => ((x9 = 0 → (aBM d 12 Q 200 [some (.ref 1000), some (.int a1), none, none, none, none] [] S8)) ∧ (¬ x9 = 0 → ((a1 ≤ 0 → (aBM d 12 Q 200 [some (.ref 1000), some (.int a1), none, none, none, none] [] S8)) ∧ (¬ a1 ≤ 0 → (aWM d 10 [.ref 1000, .int (29 : Int32)] S8 (fun v10 S11 => aV v10 (aBM d 12 Q 190 [some (.ref 1000), some (.int (a1 + (-1 : Int32))), some (.int a2), none, none, none] [] S11))))))))))) ∧ (¬ x6 = 0 → (aBM d 12 Q 163 [some (.ref 1000), some (.int a1), none, none, none, none] [] S5))))))))))) : aBM d 12 Q 155 [some (.ref 1000), some (.int a1), some (.int a2), none, none, none] [] S := aM_bl h
set_option maxRecDepth 100000 in
theorem bM_reads_163 {d : Nat} {Q : Value → aS → Prop} {a1 : Int32} {S : aS} (h : aWM d 7 [.ref 1000, .long (1111 : Int64)] S (fun v1 S2 => aI v1 (fun x3 => ((x3 = 0 → (aWM d 10 [.ref 1000, .int (27 : Int32)] S2 (fun v4 S5 => aV v4 (vp_in a1 7 ∧ (aWM d 6 [.ref 1000] (sa S5 1016 a1.toNatClampNeg (vp_nar .boolean (0 : Int32))) (fun v6 S7 => aV v6 (aBM d 12 Q 9 [some (.ref 1000), some (.int a1), some (.int (1 : Int32)), none, none, none] [] S7))))))) ∧ (¬ x3 = 0 → (aWM d 10 [.ref 1000, .int (26 : Int32)] S2 (fun v8 S9 => aV v8 (vp_in a1 7 ∧ (aWM d 6 [.ref 1000] (sa S9 1016 a1.toNatClampNeg (vp_nar .boolean (0 : Int32))) (fun v10 S11 => aV v10 (aBM d 12 Q 9 [some (.ref 1000), some (.int a1), some (.int (1 : Int32)), none, none, none] [] S11))))))))))) : aBM d 12 Q 163 [some (.ref 1000), some (.int a1), none, none, none, none] [] S := aM_bl h
set_option maxRecDepth 100000 in
theorem bM_reads_190 {d : Nat} {Q : Value → aS → Prop} {a1 : Int32} {a2 : Int32} {S : aS} (h : ((a1 ≤ 0 → (aWM d 6 [.ref 1000] S (fun v1 S2 => aV v1 (aBM d 12 Q 9 [some (.ref 1000), some (.int a1), some (.int a2), none, none, none] [] S2)))) ∧ (¬ a1 ≤ 0 → (vp_in a1 7 ∧ (((¬ (ga S 1015 a1.toNatClampNeg) = (1 : Int32) → (aWM d 6 [.ref 1000] S (fun v3 S4 => aV v3 (aBM d 12 Q 9 [some (.ref 1000), some (.int a1), some (.int a2), none, none, none] [] S4)))) ∧ ((ga S 1015 a1.toNatClampNeg) = (1 : Int32) → (aBM d 12 Q 190 [some (.ref 1000), some (.int (a1 + (-1 : Int32))), some (.int a2), none, none, none] [] S)))))))) : aBM d 12 Q 190 [some (.ref 1000), some (.int a1), some (.int a2), none, none, none] [] S := aM_bl h
set_option maxRecDepth 100000 in
theorem bM_reads_200 {d : Nat} {Q : Value → aS → Prop} {a1 : Int32} {S : aS} (h : ((¬ a1 = 0 → (aWM d 9 [.ref 1000, .int (1 : Int32)] S (fun v1 S2 => aI v1 (fun x3 => (x3 = 0 ∨ x3 = 1) ∧ Q (.int x3) S2)))) ∧ (a1 = 0 → (aWM d 8 [.ref 1000, .int (59 : Int32)] S (fun v4 S5 => aI v4 (fun x6 => ((x6 = 0 → (aWM d 9 [.ref 1000, .int (1 : Int32)] S5 (fun v7 S8 => aI v7 (fun x9 => (x9 = 0 ∨ x9 = 1) ∧ Q (.int x9) S8)))) ∧ (¬ x6 = 0 → (aWM d 6 [.ref 1000] S5 (fun v10 S11 => aV v10 (((1 : Int32) = 0 ∨ (1 : Int32) = 1) ∧ Q (.int (1 : Int32)) S11))))))))))) : aBM d 12 Q 200 [some (.ref 1000), some (.int a1), none, none, none, none] [] S := aM_bl h
set_option maxRecDepth 100000 in
/-- opens(I)V -/
theorem mM_opens {d : Nat} {Q : Value → aS → Prop} {p0 : Int32} {S : aS} (h : vp_in p0 7 ∧ (vp_in p0 7 ∧ (vp_in p0 7 ∧ (vp_in p0 7 ∧ (vp_in p0 7 ∧ (Q .null (sa (sa (sa (sa (sa S 1018 p0.toNatClampNeg (0 : Int32)) 1020 p0.toNatClampNeg (0 : Int32)) 1021 p0.toNatClampNeg (0 : Int32)) 1022 p0.toNatClampNeg (20 : Int32)) 1024 p0.toNatClampNeg (0 : Int32)))))))) : aWM (d + 1) 13 [.ref 1000, .int p0] S Q := aW_in rfl (aP_at h)
set_option maxRecDepth 100000 in
/-- sums(I)V -/
theorem mM_sums {d : Nat} {Q : Value → aS → Prop} {p0 : Int32} {S : aS} (h : vp_in p0 7 ∧ (((¬ (ga S 1022 p0.toNatClampNeg) = (21 : Int32) → (vp_in p0 7 ∧ (vp_in p0 7 ∧ (vp_in p0 7 ∧ (vp_in p0 7 ∧ (Q .null (sa (sa S 1021 p0.toNatClampNeg ((ga S 1021 p0.toNatClampNeg) + (ga S 1023 p0.toNatClampNeg))) 1024 p0.toNatClampNeg (0 : Int32)))))))) ∧ ((ga S 1022 p0.toNatClampNeg) = (21 : Int32) → (vp_in p0 7 ∧ (vp_in p0 7 ∧ (vp_in p0 7 ∧ (vp_in p0 7 ∧ (Q .null (sa (sa S 1021 p0.toNatClampNeg ((ga S 1021 p0.toNatClampNeg) - (ga S 1023 p0.toNatClampNeg))) 1024 p0.toNatClampNeg (0 : Int32))))))))))) : aWM (d + 1) 14 [.ref 1000, .int p0] S Q := aW_in rfl (aP_at h)
set_option maxRecDepth 100000 in
/-- tests(I)V -/
theorem mM_tests {d : Nat} {Q : Value → aS → Prop} {p0 : Int32} {S : aS} (h : aWM d 14 [.ref 1000, .int p0] S (fun v1 S2 => aV v1 (vp_in p0 7 ∧ (vp_in p0 7 ∧ (((¬ (ga S2 1020 p0.toNatClampNeg) = (24 : Int32) → (aBM d 15 Q 27 [some (.ref 1000), some (.int p0), some (.int (ga S2 1021 p0.toNatClampNeg))] [] S2)) ∧ ((ga S2 1020 p0.toNatClampNeg) = (24 : Int32) → (vp_in p0 7 ∧ (vp_in p0 7 ∧ ((((ga S2 1021 p0.toNatClampNeg) ≤ (ga S2 1019 p0.toNatClampNeg) → (aBM d 15 Q 27 [some (.ref 1000), some (.int p0), some (.int (0 : Int32))] [] S2)) ∧ (¬ (ga S2 1021 p0.toNatClampNeg) ≤ (ga S2 1019 p0.toNatClampNeg) → (aBM d 15 Q 27 [some (.ref 1000), some (.int p0), some (.int (1 : Int32))] [] S2))))))))))))) : aWM (d + 1) 15 [.ref 1000, .int p0] S Q := aW_in rfl (aP_at h)
set_option maxRecDepth 100000 in
theorem bM_tests_27 {d : Nat} {Q : Value → aS → Prop} {a1 : Int32} {a2 : Int32} {S : aS} (h : vp_in a1 7 ∧ (((¬ (ga S 1020 a1.toNatClampNeg) = (25 : Int32) → (aBM d 15 Q 46 [some (.ref 1000), some (.int a1), some (.int a2)] [] S)) ∧ ((ga S 1020 a1.toNatClampNeg) = (25 : Int32) → (vp_in a1 7 ∧ (vp_in a1 7 ∧ (((¬ (ga S 1019 a1.toNatClampNeg) = (ga S 1021 a1.toNatClampNeg) → (aBM d 15 Q 46 [some (.ref 1000), some (.int a1), some (.int (0 : Int32))] [] S)) ∧ ((ga S 1019 a1.toNatClampNeg) = (ga S 1021 a1.toNatClampNeg) → (aBM d 15 Q 46 [some (.ref 1000), some (.int a1), some (.int (1 : Int32))] [] S)))))))))) : aBM d 15 Q 27 [some (.ref 1000), some (.int a1), some (.int a2)] [] S := aM_bl h
set_option maxRecDepth 100000 in
theorem bM_tests_46 {d : Nat} {Q : Value → aS → Prop} {a1 : Int32} {a2 : Int32} {S : aS} (h : vp_in a1 7 ∧ (((¬ (ga S 1018 a1.toNatClampNeg) = (26 : Int32) → (aBM d 15 Q 63 [some (.ref 1000), some (.int a1), some (.int a2)] [] S)) ∧ ((ga S 1018 a1.toNatClampNeg) = (26 : Int32) → (vp_in a1 7 ∧ ((((ga S 1017 a1.toNatClampNeg) = 0 → (aBM d 15 Q 63 [some (.ref 1000), some (.int a1), some (.int (0 : Int32))] [] S)) ∧ (¬ (ga S 1017 a1.toNatClampNeg) = 0 → ((a2 = 0 → (aBM d 15 Q 63 [some (.ref 1000), some (.int a1), some (.int (0 : Int32))] [] S)) ∧ (¬ a2 = 0 → (aBM d 15 Q 63 [some (.ref 1000), some (.int a1), some (.int (1 : Int32))] [] S))))))))))) : aBM d 15 Q 46 [some (.ref 1000), some (.int a1), some (.int a2)] [] S := aM_bl h
set_option maxRecDepth 100000 in
theorem bM_tests_63 {d : Nat} {Q : Value → aS → Prop} {a1 : Int32} {a2 : Int32} {S : aS} (h : vp_in a1 7 ∧ (((¬ (ga S 1018 a1.toNatClampNeg) = (27 : Int32) → (aBM d 15 Q 80 [some (.ref 1000), some (.int a1), some (.int a2)] [] S)) ∧ ((ga S 1018 a1.toNatClampNeg) = (27 : Int32) → (vp_in a1 7 ∧ (((¬ (ga S 1017 a1.toNatClampNeg) = 0 → (aBM d 15 Q 80 [some (.ref 1000), some (.int a1), some (.int (1 : Int32))] [] S)) ∧ ((ga S 1017 a1.toNatClampNeg) = 0 → ((a2 = 0 → (aBM d 15 Q 80 [some (.ref 1000), some (.int a1), some (.int (0 : Int32))] [] S)) ∧ (¬ a2 = 0 → (aBM d 15 Q 80 [some (.ref 1000), some (.int a1), some (.int (1 : Int32))] [] S))))))))))) : aBM d 15 Q 63 [some (.ref 1000), some (.int a1), some (.int a2)] [] S := aM_bl h
set_option maxRecDepth 100000 in
theorem bM_tests_80 {d : Nat} {Q : Value → aS → Prop} {a1 : Int32} {a2 : Int32} {S : aS} (h : vp_in a1 7 ∧ (vp_in a1 7 ∧ (vp_in a1 7 ∧ (vp_in a1 7 ∧ (Q .null (sa (sa (sa (sa S 1017 a1.toNatClampNeg a2) 1020 a1.toNatClampNeg (0 : Int32)) 1021 a1.toNatClampNeg (0 : Int32)) 1022 a1.toNatClampNeg (20 : Int32))))))) : aBM d 15 Q 80 [some (.ref 1000), some (.int a1), some (.int a2)] [] S := aM_bl h
set_option maxRecDepth 100000 in
/-- worked(I)I -/
theorem mM_worked {d : Nat} {Q : Value → aS → Prop} {p0 : Int32} {S : aS} (h : aWM d 13 [.ref 1000, .int (0 : Int32)] S (fun v1 S2 => aV v1 (vp_in p0 4 ∧ (aBM d 16 Q 10 [some (.ref 1000), some (.int p0), some (.int (0 : Int32)), some (.int (ga S2 1012 p0.toNatClampNeg)), none, none] [] S2)))) : aWM (d + 1) 16 [.ref 1000, .int p0] S Q := aW_in rfl (aP_at h)
set_option maxRecDepth 100000 in
theorem bM_worked_10 {d : Nat} {Q : Value → aS → Prop} {a1 : Int32} {a2 : Int32} {a3 : Int32} {S : aS} (h : vp_in a1 4 ∧ ((((ga S 1013 a1.toNatClampNeg) ≤ a3 → (aWM d 15 [.ref 1000, .int (0 : Int32)] S (fun v1 S2 => aV v1 (vp_in (0 : Int32) 7 ∧ (Q (.int (ga S2 1017 (0 : Int32).toNatClampNeg)) S2))))) ∧ (¬ (ga S 1013 a1.toNatClampNeg) ≤ a3 → (vp_in a3 2000 ∧ ((((ga S 1014 a3.toNatClampNeg) = (28 : Int32) → (aBM d 16 Q 27 [some (.ref 1000), some (.int a1), some (.int a2), some (.int a3), some (.int (ga S 1014 a3.toNatClampNeg)), none] [] S)) ∧ (¬ (ga S 1014 a3.toNatClampNeg) = (28 : Int32) → ((¬ (ga S 1014 a3.toNatClampNeg) = (30 : Int32) → (((ga S 1014 a3.toNatClampNeg) = (20 : Int32) → (aWM d 14 [.ref 1000, .int a2] S (fun v3 S4 => aV v3 (vp_in a2 7 ∧ (aBM d 16 Q 10 [some (.ref 1000), some (.int a1), some (.int a2), some (.int (a3 + (1 : Int32))), none, none] [] (sa S4 1022 a2.toNatClampNeg (ga S 1014 a3.toNatClampNeg))))))) ∧ (¬ (ga S 1014 a3.toNatClampNeg) = (20 : Int32) → ((¬ (ga S 1014 a3.toNatClampNeg) = (21 : Int32) → ((¬ (ga S 1014 a3.toNatClampNeg) = (22 : Int32) → (((ga S 1014 a3.toNatClampNeg) = (24 : Int32) → (aBM d 16 Q 72 [some (.ref 1000), some (.int a1), some (.int a2), some (.int a3), some (.int (ga S 1014 a3.toNatClampNeg)), none] [] S)) ∧ (¬ (ga S 1014 a3.toNatClampNeg) = (24 : Int32) → ((¬ (ga S 1014 a3.toNatClampNeg) = (25 : Int32) → (((ga S 1014 a3.toNatClampNeg) = (26 : Int32) → (aWM d 15 [.ref 1000, .int a2] S (fun v5 S6 => aV v5 (vp_in a2 7 ∧ (aBM d 16 Q 10 [some (.ref 1000), some (.int a1), some (.int a2), some (.int (a3 + (1 : Int32))), none, none] [] (sa S6 1018 a2.toNatClampNeg (ga S 1014 a3.toNatClampNeg))))))) ∧ (¬ (ga S 1014 a3.toNatClampNeg) = (26 : Int32) → ((¬ (ga S 1014 a3.toNatClampNeg) = (27 : Int32) → (((ga S 1014 a3.toNatClampNeg) < (100 : Int32) → (((20 : Int32) ≤ (ga S 1014 a3.toNatClampNeg) → ((¬ (ga S 1014 a3.toNatClampNeg) = (29 : Int32) → (aBM d 16 Q 143 [some (.ref 1000), some (.int a1), some (.int a2), some (.int a3), none, some (.int (0 : Int32))] [] S)) ∧ ((ga S 1014 a3.toNatClampNeg) = (29 : Int32) → (aWM d 15 [.ref 1000, .int a2] S (fun v7 S8 => aV v7 (vp_in a2 7 ∧ (aBM d 16 Q 143 [some (.ref 1000), some (.int a1), some (.int (a2 + (-1 : Int32))), some (.int a3), none, some (.int (ga S8 1017 a2.toNatClampNeg))] [] S8))))))) ∧ (¬ (20 : Int32) ≤ (ga S 1014 a3.toNatClampNeg) → (vp_in (ga S 1014 a3.toNatClampNeg) 20 ∧ (((¬ (ga S 1014 a3.toNatClampNeg) = (29 : Int32) → (aBM d 16 Q 143 [some (.ref 1000), some (.int a1), some (.int a2), some (.int a3), none, some (.int (ga S 1026 (ga S 1014 a3.toNatClampNeg).toNatClampNeg))] [] S)) ∧ ((ga S 1014 a3.toNatClampNeg) = (29 : Int32) → (aWM d 15 [.ref 1000, .int a2] S (fun v9 S10 => aV v9 (vp_in a2 7 ∧ (aBM d 16 Q 143 [some (.ref 1000), some (.int a1), some (.int (a2 + (-1 : Int32))), some (.int a3), none, some (.int (ga S10 1017 a2.toNatClampNeg))] [] S10))))))))))) ∧ (¬ (ga S 1014 a3.toNatClampNeg) < (100 : Int32) → ((¬ (ga S 1014 a3.toNatClampNeg) = (29 : Int32) → (aBM d 16 Q 143 [some (.ref 1000), some (.int a1), some (.int a2), some (.int a3), none, some (.int ((ga S 1014 a3.toNatClampNeg) - (100 : Int32)))] [] S)) ∧ ((ga S 1014 a3.toNatClampNeg) = (29 : Int32) → (aWM d 15 [.ref 1000, .int a2] S (fun v11 S12 => aV v11 (vp_in a2 7 ∧ (aBM d 16 Q 143 [some (.ref 1000), some (.int a1), some (.int (a2 + (-1 : Int32))), some (.int a3), none, some (.int (ga S12 1017 a2.toNatClampNeg))] [] S12))))))))) ∧ ((ga S 1014 a3.toNatClampNeg) = (27 : Int32) → (aWM d 15 [.ref 1000, .int a2] S (fun v13 S14 => aV v13 (vp_in a2 7 ∧ (aBM d 16 Q 10 [some (.ref 1000), some (.int a1), some (.int a2), some (.int (a3 + (1 : Int32))), none, none] [] (sa S14 1018 a2.toNatClampNeg (ga S 1014 a3.toNatClampNeg))))))))))) ∧ ((ga S 1014 a3.toNatClampNeg) = (25 : Int32) → (aBM d 16 Q 72 [some (.ref 1000), some (.int a1), some (.int a2), some (.int a3), some (.int (ga S 1014 a3.toNatClampNeg)), none] [] S)))))) ∧ ((ga S 1014 a3.toNatClampNeg) = (22 : Int32) → (vp_in a2 7 ∧ (aBM d 16 Q 10 [some (.ref 1000), some (.int a1), some (.int a2), some (.int (a3 + (1 : Int32))), none, none] [] (sa S 1024 a2.toNatClampNeg (ga S 1014 a3.toNatClampNeg))))))) ∧ ((ga S 1014 a3.toNatClampNeg) = (21 : Int32) → (aWM d 14 [.ref 1000, .int a2] S (fun v15 S16 => aV v15 (vp_in a2 7 ∧ (aBM d 16 Q 10 [some (.ref 1000), some (.int a1), some (.int a2), some (.int (a3 + (1 : Int32))), none, none] [] (sa S16 1022 a2.toNatClampNeg (ga S 1014 a3.toNatClampNeg))))))))))) ∧ ((ga S 1014 a3.toNatClampNeg) = (30 : Int32) → (aBM d 16 Q 27 [some (.ref 1000), some (.int a1), some (.int a2), some (.int a3), some (.int (ga S 1014 a3.toNatClampNeg)), none] [] S))))))))))) : aBM d 16 Q 10 [some (.ref 1000), some (.int a1), some (.int a2), some (.int a3), none, none] [] S := aM_bl h
set_option maxRecDepth 100000 in
theorem bM_worked_27 {d : Nat} {Q : Value → aS → Prop} {a1 : Int32} {a2 : Int32} {a3 : Int32} {a4 : Int32} {S : aS} (h : ((¬ a4 = (30 : Int32) → (vp_in (a2 + (1 : Int32)) 7 ∧ (aWM d 13 [.ref 1000, .int (a2 + (1 : Int32))] (sa S 1025 (a2 + (1 : Int32)).toNatClampNeg (0 : Int32)) (fun v1 S2 => aV v1 (aBM d 16 Q 10 [some (.ref 1000), some (.int a1), some (.int (a2 + (1 : Int32))), some (.int (a3 + (1 : Int32))), none, none] [] S2))))) ∧ (a4 = (30 : Int32) → (vp_in (a2 + (1 : Int32)) 7 ∧ (aWM d 13 [.ref 1000, .int (a2 + (1 : Int32))] (sa S 1025 (a2 + (1 : Int32)).toNatClampNeg (1 : Int32)) (fun v3 S4 => aV v3 (aBM d 16 Q 10 [some (.ref 1000), some (.int a1), some (.int (a2 + (1 : Int32))), some (.int (a3 + (1 : Int32))), none, none] [] S4))))))) : aBM d 16 Q 27 [some (.ref 1000), some (.int a1), some (.int a2), some (.int a3), some (.int a4), none] [] S := aM_bl h
set_option maxRecDepth 100000 in
theorem bM_worked_72 {d : Nat} {Q : Value → aS → Prop} {a1 : Int32} {a2 : Int32} {a3 : Int32} {a4 : Int32} {S : aS} (h : aWM d 14 [.ref 1000, .int a2] S (fun v1 S2 => aV v1 (vp_in a2 7 ∧ (vp_in a2 7 ∧ (vp_in a2 7 ∧ (vp_in a2 7 ∧ (vp_in a2 7 ∧ (aBM d 16 Q 10 [some (.ref 1000), some (.int a1), some (.int a2), some (.int (a3 + (1 : Int32))), none, none] [] (sa (sa (sa (sa S2 1019 a2.toNatClampNeg (ga S2 1021 a2.toNatClampNeg)) 1020 a2.toNatClampNeg a4) 1021 a2.toNatClampNeg (0 : Int32)) 1022 a2.toNatClampNeg (20 : Int32)))))))))) : aBM d 16 Q 72 [some (.ref 1000), some (.int a1), some (.int a2), some (.int a3), some (.int a4), none] [] S := aM_bl h
set_option maxRecDepth 100000 in
theorem bM_worked_143 {d : Nat} {Q : Value → aS → Prop} {a1 : Int32} {a2 : Int32} {a3 : Int32} {a5 : Int32} {S : aS} (h : ((a2 ≤ 0 → (aBM d 16 Q 159 [some (.ref 1000), some (.int a1), some (.int a2), some (.int a3), none, some (.int a5)] [] S)) ∧ (¬ a2 ≤ 0 → (vp_in a2 7 ∧ (((¬ (ga S 1025 a2.toNatClampNeg) = (1 : Int32) → (aBM d 16 Q 159 [some (.ref 1000), some (.int a1), some (.int a2), some (.int a3), none, some (.int a5)] [] S)) ∧ ((ga S 1025 a2.toNatClampNeg) = (1 : Int32) → ((¬ a5 = 0 → (aBM d 16 Q 143 [some (.ref 1000), some (.int a1), some (.int (a2 + (-1 : Int32))), some (.int a3), none, some (.int (0 : Int32))] [] S)) ∧ (a5 = 0 → (aBM d 16 Q 143 [some (.ref 1000), some (.int a1), some (.int (a2 + (-1 : Int32))), some (.int a3), none, some (.int (1 : Int32))] [] S)))))))))) : aBM d 16 Q 143 [some (.ref 1000), some (.int a1), some (.int a2), some (.int a3), none, some (.int a5)] [] S := aM_bl h
set_option maxRecDepth 100000 in
theorem bM_worked_159 {d : Nat} {Q : Value → aS → Prop} {a1 : Int32} {a2 : Int32} {a3 : Int32} {a5 : Int32} {S : aS} (h : vp_in a2 7 ∧ (((¬ (ga S 1024 a2.toNatClampNeg) = 0 → (vp_in a2 7 ∧ (vp_in a2 7 ∧ (aBM d 16 Q 10 [some (.ref 1000), some (.int a1), some (.int a2), some (.int (a3 + (1 : Int32))), none, none] [] (sa S 1023 a2.toNatClampNeg ((ga S 1023 a2.toNatClampNeg) * a5)))))) ∧ ((ga S 1024 a2.toNatClampNeg) = 0 → (vp_in a2 7 ∧ (aBM d 16 Q 10 [some (.ref 1000), some (.int a1), some (.int a2), some (.int (a3 + (1 : Int32))), none, none] [] (sa S 1023 a2.toNatClampNeg a5))))))) : aBM d 16 Q 159 [some (.ref 1000), some (.int a1), some (.int a2), some (.int a3), none, some (.int a5)] [] S := aM_bl h
set_option maxRecDepth 100000 in
/-- isKept()Z -/
theorem mM_isKept {d : Nat} {Q : Value → aS → Prop}  {S : aS} (h : (((gi S 1000 6) = (1 : Int32) → (((lg_cmp (gl S 1000 7) (339782679 : Int64)) = 0 → (((1 : Int32) = 0 ∨ (1 : Int32) = 1) ∧ Q (.int (1 : Int32)) S)) ∧ (¬ (lg_cmp (gl S 1000 7) (339782679 : Int64)) = 0 → (((lg_cmp (gl S 1000 7) (464134 : Int64)) = 0 → (((1 : Int32) = 0 ∨ (1 : Int32) = 1) ∧ Q (.int (1 : Int32)) S)) ∧ (¬ (lg_cmp (gl S 1000 7) (464134 : Int64)) = 0 → (((lg_cmp (gl S 1000 7) (129361 : Int64)) = 0 → (((1 : Int32) = 0 ∨ (1 : Int32) = 1) ∧ Q (.int (1 : Int32)) S)) ∧ (¬ (lg_cmp (gl S 1000 7) (129361 : Int64)) = 0 → (((lg_cmp (gl S 1000 7) (332864552 : Int64)) = 0 → (((1 : Int32) = 0 ∨ (1 : Int32) = 1) ∧ Q (.int (1 : Int32)) S)) ∧ (¬ (lg_cmp (gl S 1000 7) (332864552 : Int64)) = 0 → (((lg_cmp (gl S 1000 7) (149125 : Int64)) = 0 → (((1 : Int32) = 0 ∨ (1 : Int32) = 1) ∧ Q (.int (1 : Int32)) S)) ∧ (¬ (lg_cmp (gl S 1000 7) (149125 : Int64)) = 0 → (((lg_cmp (gl S 1000 7) (240023 : Int64)) = 0 → (((1 : Int32) = 0 ∨ (1 : Int32) = 1) ∧ Q (.int (1 : Int32)) S)) ∧ (¬ (lg_cmp (gl S 1000 7) (240023 : Int64)) = 0 → (((lg_cmp (gl S 1000 7) (6562612 : Int64)) = 0 → (((1 : Int32) = 0 ∨ (1 : Int32) = 1) ∧ Q (.int (1 : Int32)) S)) ∧ (¬ (lg_cmp (gl S 1000 7) (6562612 : Int64)) = 0 → (((lg_cmp (gl S 1000 7) (1831769 : Int64)) = 0 → (((1 : Int32) = 0 ∨ (1 : Int32) = 1) ∧ Q (.int (1 : Int32)) S)) ∧ (¬ (lg_cmp (gl S 1000 7) (1831769 : Int64)) = 0 → (((lg_cmp (gl S 1000 7) (3492766 : Int64)) = 0 → (((1 : Int32) = 0 ∨ (1 : Int32) = 1) ∧ Q (.int (1 : Int32)) S)) ∧ (¬ (lg_cmp (gl S 1000 7) (3492766 : Int64)) = 0 → (((lg_cmp (gl S 1000 7) (339782680 : Int64)) = 0 → (((1 : Int32) = 0 ∨ (1 : Int32) = 1) ∧ Q (.int (1 : Int32)) S)) ∧ (¬ (lg_cmp (gl S 1000 7) (339782680 : Int64)) = 0 → (((lg_cmp (gl S 1000 7) (89821 : Int64)) = 0 → (((1 : Int32) = 0 ∨ (1 : Int32) = 1) ∧ Q (.int (1 : Int32)) S)) ∧ (¬ (lg_cmp (gl S 1000 7) (89821 : Int64)) = 0 → (((lg_cmp (gl S 1000 7) (12584543 : Int64)) = 0 → (((1 : Int32) = 0 ∨ (1 : Int32) = 1) ∧ Q (.int (1 : Int32)) S)) ∧ (¬ (lg_cmp (gl S 1000 7) (12584543 : Int64)) = 0 → (((lg_cmp (gl S 1000 7) (55175 : Int64)) = 0 → (((1 : Int32) = 0 ∨ (1 : Int32) = 1) ∧ Q (.int (1 : Int32)) S)) ∧ (¬ (lg_cmp (gl S 1000 7) (55175 : Int64)) = 0 → (((lg_cmp (gl S 1000 7) (316189 : Int64)) = 0 → (((1 : Int32) = 0 ∨ (1 : Int32) = 1) ∧ Q (.int (1 : Int32)) S)) ∧ (¬ (lg_cmp (gl S 1000 7) (316189 : Int64)) = 0 → (((lg_cmp (gl S 1000 7) (8740238 : Int64)) = 0 → (((1 : Int32) = 0 ∨ (1 : Int32) = 1) ∧ Q (.int (1 : Int32)) S)) ∧ (¬ (lg_cmp (gl S 1000 7) (8740238 : Int64)) = 0 → (((lg_cmp (gl S 1000 7) (459788 : Int64)) = 0 → (((1 : Int32) = 0 ∨ (1 : Int32) = 1) ∧ Q (.int (1 : Int32)) S)) ∧ (¬ (lg_cmp (gl S 1000 7) (459788 : Int64)) = 0 → (((lg_cmp (gl S 1000 7) (459598 : Int64)) = 0 → (((1 : Int32) = 0 ∨ (1 : Int32) = 1) ∧ Q (.int (1 : Int32)) S)) ∧ (¬ (lg_cmp (gl S 1000 7) (459598 : Int64)) = 0 → (((lg_cmp (gl S 1000 7) (14200 : Int64)) = 0 → (((1 : Int32) = 0 ∨ (1 : Int32) = 1) ∧ Q (.int (1 : Int32)) S)) ∧ (¬ (lg_cmp (gl S 1000 7) (14200 : Int64)) = 0 → (((lg_cmp (gl S 1000 7) (10631 : Int64)) = 0 → (((1 : Int32) = 0 ∨ (1 : Int32) = 1) ∧ Q (.int (1 : Int32)) S)) ∧ (¬ (lg_cmp (gl S 1000 7) (10631 : Int64)) = 0 → (((lg_cmp (gl S 1000 7) (1111 : Int64)) = 0 → (((1 : Int32) = 0 ∨ (1 : Int32) = 1) ∧ Q (.int (1 : Int32)) S)) ∧ (¬ (lg_cmp (gl S 1000 7) (1111 : Int64)) = 0 → ((¬ (lg_cmp (gl S 1000 7) (423 : Int64)) = 0 → (((0 : Int32) = 0 ∨ (0 : Int32) = 1) ∧ Q (.int (0 : Int32)) S)) ∧ ((lg_cmp (gl S 1000 7) (423 : Int64)) = 0 → (((1 : Int32) = 0 ∨ (1 : Int32) = 1) ∧ Q (.int (1 : Int32)) S)))))))))))))))))))))))))))))))))))))))))))) ∧ (¬ (gi S 1000 6) = (1 : Int32) → (((1 : Int32) = 0 ∨ (1 : Int32) = 1) ∧ Q (.int (1 : Int32)) S)))) : aWM (d + 1) 17 [.ref 1000] S Q := aW_in rfl (aP_at h)
set_option maxRecDepth 100000 in
/-- writerNamed()I -/
theorem mM_writerNamed {d : Nat} {Q : Value → aS → Prop}  {S : aS} (h : aBM d 18 Q 2 [some (.ref 1000), some (.int (5 : Int32))] [] S) : aWM (d + 1) 18 [.ref 1000] S Q := aW_in rfl (aP_at h)
set_option maxRecDepth 100000 in
theorem bM_writerNamed_2 {d : Nat} {Q : Value → aS → Prop} {a1 : Int32} {S : aS} (h : vp_in (4 : Int32) 8 ∧ (((((5 : Int32) + (ga S 1002 (4 : Int32).toNatClampNeg)) ≤ a1 → (Q (.int (-1 : Int32)) S)) ∧ (¬ ((5 : Int32) + (ga S 1002 (4 : Int32).toNatClampNeg)) ≤ a1 → (vp_in a1 10 ∧ (((¬ (lg_cmp (gb S 1003 a1.toNatClampNeg) (gl S 1000 7)) = 0 → (aBM d 18 Q 2 [some (.ref 1000), some (.int (a1 + (1 : Int32)))] [] S)) ∧ ((lg_cmp (gb S 1003 a1.toNatClampNeg) (gl S 1000 7)) = 0 → (Q (.int (a1 - (5 : Int32))) S))))))))) : aBM d 18 Q 2 [some (.ref 1000), some (.int a1)] [] S := aM_bl h
set_option maxRecDepth 100000 in
/-- wordNamed(I)I -/
theorem mM_wordNamed {d : Nat} {Q : Value → aS → Prop} {p0 : Int32} {S : aS} (h : aBM d 19 Q 4 [some (.ref 1000), some (.int p0), some (.int ((12 : Int32) * p0))] [] S) : aWM (d + 1) 19 [.ref 1000, .int p0] S Q := aW_in rfl (aP_at h)
set_option maxRecDepth 100000 in
theorem bM_wordNamed_4 {d : Nat} {Q : Value → aS → Prop} {a1 : Int32} {a2 : Int32} {S : aS} (h : vp_in (((4 : Int32) * a1) + (1 : Int32)) 8 ∧ ((((((12 : Int32) * a1) + (ga S 1002 (((4 : Int32) * a1) + (1 : Int32)).toNatClampNeg)) ≤ a2 → (Q (.int (-1 : Int32)) S)) ∧ (¬ (((12 : Int32) * a1) + (ga S 1002 (((4 : Int32) * a1) + (1 : Int32)).toNatClampNeg)) ≤ a2 → (vp_in a2 24 ∧ (((¬ (lg_cmp (gb S 1004 a2.toNatClampNeg) (gl S 1000 7)) = 0 → (aBM d 19 Q 4 [some (.ref 1000), some (.int a1), some (.int (a2 + (1 : Int32)))] [] S)) ∧ ((lg_cmp (gb S 1004 a2.toNatClampNeg) (gl S 1000 7)) = 0 → (Q (.int (a2 - ((12 : Int32) * a1))) S))))))))) : aBM d 19 Q 4 [some (.ref 1000), some (.int a1), some (.int a2)] [] S := aM_bl h
set_option maxRecDepth 100000 in
/-- needsNumber(II)Z -/
theorem mM_needsNumber {d : Nat} {Q : Value → aS → Prop} {p0 : Int32} {p1 : Int32} {S : aS} (h : (((gi S 1000 6) = (2 : Int32) → (aWM d 1 [.int (gi S 1000 8), .int p0, .int p1] S (fun v1 S2 => aI v1 (fun x3 => ((¬ x3 = 0 → (aWM d 6 [.ref 1000] (si S2 1000 38 (gi S2 1000 8)) (fun v4 S5 => aV v4 (((1 : Int32) = 0 ∨ (1 : Int32) = 1) ∧ Q (.int (1 : Int32)) S5)))) ∧ (x3 = 0 → (aWM d 9 [.ref 1000, .int (4 : Int32)] S2 (fun v6 S7 => aI v6 (fun x8 => (x8 = 0 ∨ x8 = 1) ∧ Q (.int x8) S7))))))))) ∧ (¬ (gi S 1000 6) = (2 : Int32) → (aWM d 9 [.ref 1000, .int (1 : Int32)] S (fun v9 S10 => aI v9 (fun x11 => (x11 = 0 ∨ x11 = 1) ∧ Q (.int x11) S10)))))) : aWM (d + 1) 20 [.ref 1000, .int p0, .int p1] S Q := aW_in rfl (aP_at h)
set_option maxRecDepth 100000 in
/-- needsBoth(JII)Z -/
theorem mM_needsBoth {d : Nat} {Q : Value → aS → Prop} {p0 : Int64} {p1 : Int32} {p2 : Int32} {S : aS} (h : aWM d 7 [.ref 1000, .long p0] S (fun v1 S2 => aI v1 (fun x3 => ((¬ x3 = 0 → (aWM d 6 [.ref 1000] S2 (fun v4 S5 => aV v4 (aWM d 20 [.ref 1000, .int p1, .int p2] S5 (fun v6 S7 => aI v6 (fun x8 => (x8 = 0 ∨ x8 = 1) ∧ Q (.int x8) S7)))))) ∧ (x3 = 0 → (aWM d 9 [.ref 1000, .int (1 : Int32)] S2 (fun v9 S10 => aI v9 (fun x11 => (x11 = 0 ∨ x11 = 1) ∧ Q (.int x11) S10)))))))) : aWM (d + 1) 21 [.ref 1000, .long p0, .int p1, .int p2] S Q := aW_in rfl (aP_at h)
set_option maxRecDepth 100000 in
/-- closes()Z -/
theorem mM_closes {d : Nat} {Q : Value → aS → Prop}  {S : aS} (h : aWM d 8 [.ref 1000, .int (59 : Int32)] S (fun v1 S2 => aI v1 (fun x3 => ((¬ x3 = 0 → (aWM d 6 [.ref 1000] S2 (fun v4 S5 => aV v4 (((1 : Int32) = 0 ∨ (1 : Int32) = 1) ∧ Q (.int (1 : Int32)) S5)))) ∧ (x3 = 0 → (aWM d 9 [.ref 1000, .int (1 : Int32)] S2 (fun v6 S7 => aI v6 (fun x8 => (x8 = 0 ∨ x8 = 1) ∧ Q (.int x8) S7)))))))) : aWM (d + 1) 22 [.ref 1000] S Q := aW_in rfl (aP_at h)
set_option maxRecDepth 100000 in
/-- needsNew()Z -/
theorem mM_needsNew {d : Nat} {Q : Value → aS → Prop}  {S : aS} (h : aWM d 17 [.ref 1000] S (fun v1 S2 => aI v1 (fun x3 => ((x3 = 0 → (aWM d 18 [.ref 1000] S2 (fun v4 S5 => aI v4 (fun x6 => ((0 ≤ x6 → (aWM d 9 [.ref 1000, .int (3 : Int32)] S5 (fun v7 S8 => aI v7 (fun x9 => (x9 = 0 ∨ x9 = 1) ∧ Q (.int x9) S8)))) ∧ (¬ 0 ≤ x6 → (aWM d 19 [.ref 1000, .int (1 : Int32)] S5 (fun v10 S11 => aI v10 (fun x12 => ((x12 < 0 → (aWM d 6 [.ref 1000] (sl S11 1000 39 (gl S11 1000 7)) (fun v13 S14 => aV v13 (((1 : Int32) = 0 ∨ (1 : Int32) = 1) ∧ Q (.int (1 : Int32)) S14)))) ∧ (¬ x12 < 0 → (aWM d 9 [.ref 1000, .int (3 : Int32)] S11 (fun v15 S16 => aI v15 (fun x17 => (x17 = 0 ∨ x17 = 1) ∧ Q (.int x17) S16)))))))))))))) ∧ (¬ x3 = 0 → (aWM d 9 [.ref 1000, .int (1 : Int32)] S2 (fun v18 S19 => aI v18 (fun x20 => (x20 = 0 ∨ x20 = 1) ∧ Q (.int x20) S19)))))))) : aWM (d + 1) 23 [.ref 1000] S Q := aW_in rfl (aP_at h)
set_option maxRecDepth 100000 in
/-- needsToldWord(I)Z -/
theorem mM_needsToldWord {d : Nat} {Q : Value → aS → Prop} {p0 : Int32} {S : aS} (h : aWM d 17 [.ref 1000] S (fun v1 S2 => aI v1 (fun x3 => ((x3 = 0 → (aWM d 19 [.ref 1000, .int p0] S2 (fun v4 S5 => aI v4 (fun x6 => ((0 ≤ (gi (si S5 1000 38 x6) 1000 38) → (((1 : Int32) = 0 ∨ (1 : Int32) = 1) ∧ Q (.int (1 : Int32)) (si S5 1000 38 x6))) ∧ (¬ 0 ≤ (gi (si S5 1000 38 x6) 1000 38) → (aWM d 9 [.ref 1000, .int (2 : Int32)] (si S5 1000 38 x6) (fun v7 S8 => aI v7 (fun x9 => ((x9 = 0 → (((0 : Int32) = 0 ∨ (0 : Int32) = 1) ∧ Q (.int (0 : Int32)) S8)) ∧ (¬ x9 = 0 → (((1 : Int32) = 0 ∨ (1 : Int32) = 1) ∧ Q (.int (1 : Int32)) S8)))))))))))) ∧ (¬ x3 = 0 → (aWM d 9 [.ref 1000, .int (1 : Int32)] S2 (fun v10 S11 => aI v10 (fun x12 => (x12 = 0 ∨ x12 = 1) ∧ Q (.int x12) S11)))))))) : aWM (d + 1) 24 [.ref 1000, .int p0] S Q := aW_in rfl (aP_at h)
set_option maxRecDepth 100000 in
/-- readsWriter()Z -/
theorem mM_readsWriter {d : Nat} {Q : Value → aS → Prop}  {S : aS} (h : vp_in (4 : Int32) 8 ∧ (((¬ ((5 : Int32) + (ga S 1002 (4 : Int32).toNatClampNeg)) = (10 : Int32) → (aWM d 6 [.ref 1000] S (fun v1 S2 => aV v1 (aWM d 23 [.ref 1000] S2 (fun v3 S4 => aI v3 (fun x5 => ((¬ x5 = 0 → (aWM d 7 [.ref 1000, .long (8740238 : Int64)] S4 (fun v6 S7 => aI v6 (fun x8 => ((x8 = 0 → (aWM d 7 [.ref 1000, .long (459788 : Int64)] S7 (fun v9 S10 => aI v9 (fun x11 => ((x11 = 0 → (aWM d 7 [.ref 1000, .long (459598 : Int64)] S10 (fun v12 S13 => aI v12 (fun x14 => ((x14 = 0 → (aWM d 7 [.ref 1000, .long (14200 : Int64)] S13 (fun v15 S16 => aI v15 (fun x17 => ((x17 = 0 → (vp_in ((5 : Int32) + (ga S 1002 (4 : Int32).toNatClampNeg)) 10 ∧ (vp_in ((5 : Int32) + (ga S 1002 (4 : Int32).toNatClampNeg)) 10 ∧ (((0 ≤ (ga (sa S16 1005 ((5 : Int32) + (ga S 1002 (4 : Int32).toNatClampNeg)).toNatClampNeg (-1 : Int32)) 1005 ((5 : Int32) + (ga S 1002 (4 : Int32).toNatClampNeg)).toNatClampNeg) → (aWM d 6 [.ref 1000] (sa S16 1005 ((5 : Int32) + (ga S 1002 (4 : Int32).toNatClampNeg)).toNatClampNeg (-1 : Int32)) (fun v18 S19 => aV v18 (aBM d 25 Q 63 [some (.ref 1000), some (.int ((5 : Int32) + (ga S 1002 (4 : Int32).toNatClampNeg))), some (.int (0 : Int32))] [] S19)))) ∧ (¬ 0 ≤ (ga (sa S16 1005 ((5 : Int32) + (ga S 1002 (4 : Int32).toNatClampNeg)).toNatClampNeg (-1 : Int32)) 1005 ((5 : Int32) + (ga S 1002 (4 : Int32).toNatClampNeg)).toNatClampNeg) → (aWM d 9 [.ref 1000, .int (1 : Int32)] (sa S16 1005 ((5 : Int32) + (ga S 1002 (4 : Int32).toNatClampNeg)).toNatClampNeg (-1 : Int32)) (fun v20 S21 => aI v20 (fun x22 => (x22 = 0 ∨ x22 = 1) ∧ Q (.int x22) S21))))))))) ∧ (¬ x17 = 0 → (vp_in ((5 : Int32) + (ga S 1002 (4 : Int32).toNatClampNeg)) 10 ∧ (vp_in ((5 : Int32) + (ga S 1002 (4 : Int32).toNatClampNeg)) 10 ∧ (((0 ≤ (ga (sa S16 1005 ((5 : Int32) + (ga S 1002 (4 : Int32).toNatClampNeg)).toNatClampNeg (3 : Int32)) 1005 ((5 : Int32) + (ga S 1002 (4 : Int32).toNatClampNeg)).toNatClampNeg) → (aWM d 6 [.ref 1000] (sa S16 1005 ((5 : Int32) + (ga S 1002 (4 : Int32).toNatClampNeg)).toNatClampNeg (3 : Int32)) (fun v23 S24 => aV v23 (aBM d 25 Q 63 [some (.ref 1000), some (.int ((5 : Int32) + (ga S 1002 (4 : Int32).toNatClampNeg))), some (.int (0 : Int32))] [] S24)))) ∧ (¬ 0 ≤ (ga (sa S16 1005 ((5 : Int32) + (ga S 1002 (4 : Int32).toNatClampNeg)).toNatClampNeg (3 : Int32)) 1005 ((5 : Int32) + (ga S 1002 (4 : Int32).toNatClampNeg)).toNatClampNeg) → (aWM d 9 [.ref 1000, .int (1 : Int32)] (sa S16 1005 ((5 : Int32) + (ga S 1002 (4 : Int32).toNatClampNeg)).toNatClampNeg (3 : Int32)) (fun v25 S26 => aI v25 (fun x27 => (x27 = 0 ∨ x27 = 1) ∧ Q (.int x27) S26)))))))))))))) ∧ (¬ x14 = 0 → (vp_in ((5 : Int32) + (ga S 1002 (4 : Int32).toNatClampNeg)) 10 ∧ (vp_in ((5 : Int32) + (ga S 1002 (4 : Int32).toNatClampNeg)) 10 ∧ (((0 ≤ (ga (sa S13 1005 ((5 : Int32) + (ga S 1002 (4 : Int32).toNatClampNeg)).toNatClampNeg (2 : Int32)) 1005 ((5 : Int32) + (ga S 1002 (4 : Int32).toNatClampNeg)).toNatClampNeg) → (aWM d 6 [.ref 1000] (sa S13 1005 ((5 : Int32) + (ga S 1002 (4 : Int32).toNatClampNeg)).toNatClampNeg (2 : Int32)) (fun v28 S29 => aV v28 (aBM d 25 Q 63 [some (.ref 1000), some (.int ((5 : Int32) + (ga S 1002 (4 : Int32).toNatClampNeg))), some (.int (0 : Int32))] [] S29)))) ∧ (¬ 0 ≤ (ga (sa S13 1005 ((5 : Int32) + (ga S 1002 (4 : Int32).toNatClampNeg)).toNatClampNeg (2 : Int32)) 1005 ((5 : Int32) + (ga S 1002 (4 : Int32).toNatClampNeg)).toNatClampNeg) → (aWM d 9 [.ref 1000, .int (1 : Int32)] (sa S13 1005 ((5 : Int32) + (ga S 1002 (4 : Int32).toNatClampNeg)).toNatClampNeg (2 : Int32)) (fun v30 S31 => aI v30 (fun x32 => (x32 = 0 ∨ x32 = 1) ∧ Q (.int x32) S31)))))))))))))) ∧ (¬ x11 = 0 → (vp_in ((5 : Int32) + (ga S 1002 (4 : Int32).toNatClampNeg)) 10 ∧ (vp_in ((5 : Int32) + (ga S 1002 (4 : Int32).toNatClampNeg)) 10 ∧ (((0 ≤ (ga (sa S10 1005 ((5 : Int32) + (ga S 1002 (4 : Int32).toNatClampNeg)).toNatClampNeg (1 : Int32)) 1005 ((5 : Int32) + (ga S 1002 (4 : Int32).toNatClampNeg)).toNatClampNeg) → (aWM d 6 [.ref 1000] (sa S10 1005 ((5 : Int32) + (ga S 1002 (4 : Int32).toNatClampNeg)).toNatClampNeg (1 : Int32)) (fun v33 S34 => aV v33 (aBM d 25 Q 63 [some (.ref 1000), some (.int ((5 : Int32) + (ga S 1002 (4 : Int32).toNatClampNeg))), some (.int (0 : Int32))] [] S34)))) ∧ (¬ 0 ≤ (ga (sa S10 1005 ((5 : Int32) + (ga S 1002 (4 : Int32).toNatClampNeg)).toNatClampNeg (1 : Int32)) 1005 ((5 : Int32) + (ga S 1002 (4 : Int32).toNatClampNeg)).toNatClampNeg) → (aWM d 9 [.ref 1000, .int (1 : Int32)] (sa S10 1005 ((5 : Int32) + (ga S 1002 (4 : Int32).toNatClampNeg)).toNatClampNeg (1 : Int32)) (fun v35 S36 => aI v35 (fun x37 => (x37 = 0 ∨ x37 = 1) ∧ Q (.int x37) S36)))))))))))))) ∧ (¬ x8 = 0 → (vp_in ((5 : Int32) + (ga S 1002 (4 : Int32).toNatClampNeg)) 10 ∧ (vp_in ((5 : Int32) + (ga S 1002 (4 : Int32).toNatClampNeg)) 10 ∧ (((0 ≤ (ga (sa S7 1005 ((5 : Int32) + (ga S 1002 (4 : Int32).toNatClampNeg)).toNatClampNeg (0 : Int32)) 1005 ((5 : Int32) + (ga S 1002 (4 : Int32).toNatClampNeg)).toNatClampNeg) → (aWM d 6 [.ref 1000] (sa S7 1005 ((5 : Int32) + (ga S 1002 (4 : Int32).toNatClampNeg)).toNatClampNeg (0 : Int32)) (fun v38 S39 => aV v38 (aBM d 25 Q 63 [some (.ref 1000), some (.int ((5 : Int32) + (ga S 1002 (4 : Int32).toNatClampNeg))), some (.int (0 : Int32))] [] S39)))) ∧ (¬ 0 ≤ (ga (sa S7 1005 ((5 : Int32) + (ga S 1002 (4 : Int32).toNatClampNeg)).toNatClampNeg (0 : Int32)) 1005 ((5 : Int32) + (ga S 1002 (4 : Int32).toNatClampNeg)).toNatClampNeg) → (aWM d 9 [.ref 1000, .int (1 : Int32)] (sa S7 1005 ((5 : Int32) + (ga S 1002 (4 : Int32).toNatClampNeg)).toNatClampNeg (0 : Int32)) (fun v40 S41 => aI v40 (fun x42 => (x42 = 0 ∨ x42 = 1) ∧ Q (.int x42) S41)))))))))))))) ∧ (x5 = 0 → (((0 : Int32) = 0 ∨ (0 : Int32) = 1) ∧ Q (.int (0 : Int32)) S4))))))))) ∧ (((5 : Int32) + (ga S 1002 (4 : Int32).toNatClampNeg)) = (10 : Int32) → (aWM d 9 [.ref 1000, .int (5 : Int32)] S (fun v43 S44 => aI v43 (fun x45 => (x45 = 0 ∨ x45 = 1) ∧ Q (.int x45) S44))))))) : aWM (d + 1) 25 [.ref 1000] S Q := aW_in rfl (aP_at h)
set_option maxRecDepth 100000 in
theorem bM_readsWriter_63 {d : Nat} {Q : Value → aS → Prop} {a1 : Int32} {a2 : Int32} {S : aS} (h : (((12 : Int32) ≤ a2 → (vp_in a1 10 ∧ (vp_in (4 : Int32) 8 ∧ (vp_in (4 : Int32) 8 ∧ (aWM d 22 [.ref 1000] (sa (sb S 1003 a1.toNatClampNeg (gl S 1000 39)) 1002 (4 : Int32).toNatClampNeg ((ga (sb S 1003 a1.toNatClampNeg (gl S 1000 39)) 1002 (4 : Int32).toNatClampNeg) + (1 : Int32))) (fun v1 S2 => aI v1 (fun x3 => (x3 = 0 ∨ x3 = 1) ∧ Q (.int x3) S2))))))) ∧ (¬ (12 : Int32) ≤ a2 → (vp_in (((12 : Int32) * a1) + a2) 120 ∧ (aBM d 25 Q 63 [some (.ref 1000), some (.int a1), some (.int (a2 + (1 : Int32)))] [] (sa S 1010 (((12 : Int32) * a1) + a2).toNatClampNeg (0 : Int32))))))) : aBM d 25 Q 63 [some (.ref 1000), some (.int a1), some (.int a2)] [] S := aM_bl h
set_option maxRecDepth 100000 in
/-- readsWord()Z -/
theorem mM_readsWord {d : Nat} {Q : Value → aS → Prop}  {S : aS} (h : vp_in (5 : Int32) 8 ∧ (((¬ ((12 : Int32) + (ga S 1002 (5 : Int32).toNatClampNeg)) = (24 : Int32) → (aWM d 6 [.ref 1000] S (fun v1 S2 => aV v1 (aWM d 23 [.ref 1000] S2 (fun v3 S4 => aI v3 (fun x5 => ((x5 = 0 → (((0 : Int32) = 0 ∨ (0 : Int32) = 1) ∧ Q (.int (0 : Int32)) S4)) ∧ (¬ x5 = 0 → (aWM d 21 [.ref 1000, .long (129361 : Int64), .int (0 : Int32), .int (3 : Int32)] S4 (fun v6 S7 => aI v6 (fun x8 => ((¬ x8 = 0 → (vp_in ((12 : Int32) + (ga S 1002 (5 : Int32).toNatClampNeg)) 24 ∧ (aWM d 21 [.ref 1000, .long (332864552 : Int64), .int (0 : Int32), .int (9 : Int32)] (sa S7 1006 ((12 : Int32) + (ga S 1002 (5 : Int32).toNatClampNeg)).toNatClampNeg (gi S7 1000 38)) (fun v9 S10 => aI v9 (fun x11 => ((¬ x11 = 0 → (aBM d 26 Q 41 [some (.ref 1000), some (.int ((12 : Int32) + (ga S 1002 (5 : Int32).toNatClampNeg)))] [] S10)) ∧ (x11 = 0 → (((0 : Int32) = 0 ∨ (0 : Int32) = 1) ∧ Q (.int (0 : Int32)) S10)))))))) ∧ (x8 = 0 → (((0 : Int32) = 0 ∨ (0 : Int32) = 1) ∧ Q (.int (0 : Int32)) S7)))))))))))))) ∧ (((12 : Int32) + (ga S 1002 (5 : Int32).toNatClampNeg)) = (24 : Int32) → (aWM d 9 [.ref 1000, .int (5 : Int32)] S (fun v12 S13 => aI v12 (fun x14 => (x14 = 0 ∨ x14 = 1) ∧ Q (.int x14) S13))))))) : aWM (d + 1) 26 [.ref 1000] S Q := aW_in rfl (aP_at h)
set_option maxRecDepth 100000 in
theorem bM_readsWord_41 {d : Nat} {Q : Value → aS → Prop} {a1 : Int32} {S : aS} (h : vp_in a1 24 ∧ (aWM d 21 [.ref 1000, .long (149125 : Int64), .int (0 : Int32), .int (20 : Int32)] (sa S 1007 a1.toNatClampNeg (gi S 1000 38)) (fun v1 S2 => aI v1 (fun x3 => ((¬ x3 = 0 → (vp_in a1 24 ∧ (aWM d 21 [.ref 1000, .long (240023 : Int64), .int (0 : Int32), .int (9 : Int32)] (sa S2 1008 a1.toNatClampNeg (gi S2 1000 38)) (fun v4 S5 => aI v4 (fun x6 => ((¬ x6 = 0 → (vp_in a1 24 ∧ (vp_in a1 24 ∧ (vp_in a1 24 ∧ (vp_in (5 : Int32) 8 ∧ (vp_in (5 : Int32) 8 ∧ (aWM d 22 [.ref 1000] (sa (sb (sa (sa S5 1009 a1.toNatClampNeg (gi S5 1000 38)) 1011 a1.toNatClampNeg (0 : Int32)) 1004 a1.toNatClampNeg (gl (sa (sa S5 1009 a1.toNatClampNeg (gi S5 1000 38)) 1011 a1.toNatClampNeg (0 : Int32)) 1000 39)) 1002 (5 : Int32).toNatClampNeg ((ga (sb (sa (sa S5 1009 a1.toNatClampNeg (gi S5 1000 38)) 1011 a1.toNatClampNeg (0 : Int32)) 1004 a1.toNatClampNeg (gl (sa (sa S5 1009 a1.toNatClampNeg (gi S5 1000 38)) 1011 a1.toNatClampNeg (0 : Int32)) 1000 39)) 1002 (5 : Int32).toNatClampNeg) + (1 : Int32))) (fun v7 S8 => aI v7 (fun x9 => (x9 = 0 ∨ x9 = 1) ∧ Q (.int x9) S8))))))))) ∧ (x6 = 0 → (((0 : Int32) = 0 ∨ (0 : Int32) = 1) ∧ Q (.int (0 : Int32)) S5)))))))) ∧ (x3 = 0 → (((0 : Int32) = 0 ∨ (0 : Int32) = 1) ∧ Q (.int (0 : Int32)) S2))))))) : aBM d 26 Q 41 [some (.ref 1000), some (.int a1)] [] S := aM_bl h
set_option maxRecDepth 100000 in
/-- readsLikes()Z -/
theorem mM_readsLikes {d : Nat} {Q : Value → aS → Prop}  {S : aS} (h : aWM d 6 [.ref 1000] S (fun v1 S2 => aV v1 (aWM d 17 [.ref 1000] S2 (fun v3 S4 => aI v3 (fun x5 => ((x5 = 0 → (aWM d 18 [.ref 1000] S4 (fun v6 S7 => aI v6 (fun x8 => ((0 ≤ x8 → (aWM d 6 [.ref 1000] S7 (fun v9 S10 => aV v9 (aWM d 24 [.ref 1000, .int (1 : Int32)] S10 (fun v11 S12 => aI v11 (fun x13 => ((¬ x13 = 0 → (vp_in (((60 : Int32) + ((12 : Int32) * x8)) + (gi S12 1000 38)) 120 ∧ ((((ga S12 1010 (((60 : Int32) + ((12 : Int32) * x8)) + (gi S12 1000 38)).toNatClampNeg) ≤ 0 → (aWM d 6 [.ref 1000] S12 (fun v14 S15 => aV v14 (aWM d 20 [.ref 1000, .int (1 : Int32), .int (9 : Int32)] S15 (fun v16 S17 => aI v16 (fun x18 => ((¬ x18 = 0 → (vp_in (((60 : Int32) + ((12 : Int32) * x8)) + (gi S12 1000 38)) 120 ∧ (aWM d 22 [.ref 1000] (sa S17 1010 (((60 : Int32) + ((12 : Int32) * x8)) + (gi S12 1000 38)).toNatClampNeg (gi S17 1000 38)) (fun v19 S20 => aI v19 (fun x21 => (x21 = 0 ∨ x21 = 1) ∧ Q (.int x21) S20))))) ∧ (x18 = 0 → (((0 : Int32) = 0 ∨ (0 : Int32) = 1) ∧ Q (.int (0 : Int32)) S17))))))))) ∧ (¬ (ga S12 1010 (((60 : Int32) + ((12 : Int32) * x8)) + (gi S12 1000 38)).toNatClampNeg) ≤ 0 → (aWM d 9 [.ref 1000, .int (3 : Int32)] S12 (fun v22 S23 => aI v22 (fun x24 => (x24 = 0 ∨ x24 = 1) ∧ Q (.int x24) S23)))))))) ∧ (x13 = 0 → (((0 : Int32) = 0 ∨ (0 : Int32) = 1) ∧ Q (.int (0 : Int32)) S12))))))))) ∧ (¬ 0 ≤ x8 → (aWM d 9 [.ref 1000, .int (2 : Int32)] S7 (fun v25 S26 => aI v25 (fun x27 => (x27 = 0 ∨ x27 = 1) ∧ Q (.int x27) S26))))))))) ∧ (¬ x5 = 0 → (aWM d 9 [.ref 1000, .int (1 : Int32)] S4 (fun v28 S29 => aI v28 (fun x30 => (x30 = 0 ∨ x30 = 1) ∧ Q (.int x30) S29)))))))))) : aWM (d + 1) 27 [.ref 1000] S Q := aW_in rfl (aP_at h)
set_option maxRecDepth 100000 in
/-- readsClash()Z -/
theorem mM_readsClash {d : Nat} {Q : Value → aS → Prop}  {S : aS} (h : aWM d 6 [.ref 1000] S (fun v1 S2 => aV v1 (aWM d 24 [.ref 1000, .int (1 : Int32)] S2 (fun v3 S4 => aI v3 (fun x5 => ((¬ x5 = 0 → (aWM d 6 [.ref 1000] S4 (fun v6 S7 => aV v6 (aWM d 24 [.ref 1000, .int (1 : Int32)] S7 (fun v8 S9 => aI v8 (fun x10 => ((¬ x10 = 0 → (((gi S4 1000 38) = (gi S9 1000 38) → (aWM d 9 [.ref 1000, .int (3 : Int32)] S9 (fun v11 S12 => aI v11 (fun x13 => (x13 = 0 ∨ x13 = 1) ∧ Q (.int x13) S12)))) ∧ (¬ (gi S4 1000 38) = (gi S9 1000 38) → (vp_in ((12 : Int32) + (gi S4 1000 38)) 24 ∧ (((¬ (((ga S9 1011 ((12 : Int32) + (gi S4 1000 38)).toNatClampNeg) >>> ((gi S9 1000 38) &&& 31)) &&& (1 : Int32)) = (1 : Int32) → (vp_in ((12 : Int32) + (gi S4 1000 38)) 24 ∧ (vp_in ((12 : Int32) + (gi S4 1000 38)) 24 ∧ (vp_in ((12 : Int32) + (gi (sa S9 1011 ((12 : Int32) + (gi S4 1000 38)).toNatClampNeg ((ga S9 1011 ((12 : Int32) + (gi S4 1000 38)).toNatClampNeg) ||| ((1 : Int32) <<< ((gi S9 1000 38) &&& 31)))) 1000 38)) 24 ∧ (vp_in ((12 : Int32) + (gi (sa S9 1011 ((12 : Int32) + (gi S4 1000 38)).toNatClampNeg ((ga S9 1011 ((12 : Int32) + (gi S4 1000 38)).toNatClampNeg) ||| ((1 : Int32) <<< ((gi S9 1000 38) &&& 31)))) 1000 38)) 24 ∧ (vp_in (7 : Int32) 8 ∧ (vp_in (7 : Int32) 8 ∧ (aWM d 6 [.ref 1000] (sa (sa (sa S9 1011 ((12 : Int32) + (gi S4 1000 38)).toNatClampNeg ((ga S9 1011 ((12 : Int32) + (gi S4 1000 38)).toNatClampNeg) ||| ((1 : Int32) <<< ((gi S9 1000 38) &&& 31)))) 1011 ((12 : Int32) + (gi (sa S9 1011 ((12 : Int32) + (gi S4 1000 38)).toNatClampNeg ((ga S9 1011 ((12 : Int32) + (gi S4 1000 38)).toNatClampNeg) ||| ((1 : Int32) <<< ((gi S9 1000 38) &&& 31)))) 1000 38)).toNatClampNeg ((ga (sa S9 1011 ((12 : Int32) + (gi S4 1000 38)).toNatClampNeg ((ga S9 1011 ((12 : Int32) + (gi S4 1000 38)).toNatClampNeg) ||| ((1 : Int32) <<< ((gi S9 1000 38) &&& 31)))) 1011 ((12 : Int32) + (gi (sa S9 1011 ((12 : Int32) + (gi S4 1000 38)).toNatClampNeg ((ga S9 1011 ((12 : Int32) + (gi S4 1000 38)).toNatClampNeg) ||| ((1 : Int32) <<< ((gi S9 1000 38) &&& 31)))) 1000 38)).toNatClampNeg) ||| ((1 : Int32) <<< ((gi S4 1000 38) &&& 31)))) 1002 (7 : Int32).toNatClampNeg ((ga (sa (sa S9 1011 ((12 : Int32) + (gi S4 1000 38)).toNatClampNeg ((ga S9 1011 ((12 : Int32) + (gi S4 1000 38)).toNatClampNeg) ||| ((1 : Int32) <<< ((gi S9 1000 38) &&& 31)))) 1011 ((12 : Int32) + (gi (sa S9 1011 ((12 : Int32) + (gi S4 1000 38)).toNatClampNeg ((ga S9 1011 ((12 : Int32) + (gi S4 1000 38)).toNatClampNeg) ||| ((1 : Int32) <<< ((gi S9 1000 38) &&& 31)))) 1000 38)).toNatClampNeg ((ga (sa S9 1011 ((12 : Int32) + (gi S4 1000 38)).toNatClampNeg ((ga S9 1011 ((12 : Int32) + (gi S4 1000 38)).toNatClampNeg) ||| ((1 : Int32) <<< ((gi S9 1000 38) &&& 31)))) 1011 ((12 : Int32) + (gi (sa S9 1011 ((12 : Int32) + (gi S4 1000 38)).toNatClampNeg ((ga S9 1011 ((12 : Int32) + (gi S4 1000 38)).toNatClampNeg) ||| ((1 : Int32) <<< ((gi S9 1000 38) &&& 31)))) 1000 38)).toNatClampNeg) ||| ((1 : Int32) <<< ((gi S4 1000 38) &&& 31)))) 1002 (7 : Int32).toNatClampNeg) + (1 : Int32))) (fun v14 S15 => aV v14 (aWM d 22 [.ref 1000] S15 (fun v16 S17 => aI v16 (fun x18 => (x18 = 0 ∨ x18 = 1) ∧ Q (.int x18) S17)))))))))))) ∧ ((((ga S9 1011 ((12 : Int32) + (gi S4 1000 38)).toNatClampNeg) >>> ((gi S9 1000 38) &&& 31)) &&& (1 : Int32)) = (1 : Int32) → (aWM d 9 [.ref 1000, .int (3 : Int32)] S9 (fun v19 S20 => aI v19 (fun x21 => (x21 = 0 ∨ x21 = 1) ∧ Q (.int x21) S20)))))))))) ∧ (x10 = 0 → (((0 : Int32) = 0 ∨ (0 : Int32) = 1) ∧ Q (.int (0 : Int32)) S9))))))))) ∧ (x5 = 0 → (((0 : Int32) = 0 ∨ (0 : Int32) = 1) ∧ Q (.int (0 : Int32)) S4)))))))) : aWM (d + 1) 28 [.ref 1000] S Q := aW_in rfl (aP_at h)
set_option maxRecDepth 100000 in
/-- readsFolds()Z -/
theorem mM_readsFolds {d : Nat} {Q : Value → aS → Prop}  {S : aS} (h : (((gi S 1000 25) = 0 → (((1 : Int32) = 0 ∨ (1 : Int32) = 1) ∧ (aWM d 6 [.ref 1000] (si S 1000 25 (1 : Int32)) (fun v1 S2 => aV v1 (aWM d 20 [.ref 1000, .int (2 : Int32), .int (4 : Int32)] S2 (fun v3 S4 => aI v3 (fun x5 => ((¬ x5 = 0 → (vp_in (6 : Int32) 8 ∧ (aWM d 22 [.ref 1000] (sa S4 1002 (6 : Int32).toNatClampNeg (gi S4 1000 38)) (fun v6 S7 => aI v6 (fun x8 => (x8 = 0 ∨ x8 = 1) ∧ Q (.int x8) S7))))) ∧ (x5 = 0 → (((0 : Int32) = 0 ∨ (0 : Int32) = 1) ∧ Q (.int (0 : Int32)) S4)))))))))) ∧ (¬ (gi S 1000 25) = 0 → (aWM d 9 [.ref 1000, .int (3 : Int32)] S (fun v9 S10 => aI v9 (fun x11 => (x11 = 0 ∨ x11 = 1) ∧ Q (.int x11) S10)))))) : aWM (d + 1) 29 [.ref 1000] S Q := aW_in rfl (aP_at h)
set_option maxRecDepth 100000 in
/-- readsLaw(I)Z -/
theorem mM_readsLaw {d : Nat} {Q : Value → aS → Prop} {p0 : Int32} {S : aS} (h : vp_in ((2 : Int32) + p0) 4 ∧ (vp_in ((2 : Int32) + p0) 4 ∧ ((((ga S 1013 ((2 : Int32) + p0).toNatClampNeg) ≤ (ga S 1012 ((2 : Int32) + p0).toNatClampNeg) → (aWM d 6 [.ref 1000] (si S 1000 24 p0) (fun v1 S2 => aV v1 (vp_in ((2 : Int32) + p0) 4 ∧ (aWM d 12 [.ref 1000] (sa S2 1012 ((2 : Int32) + p0).toNatClampNeg (gi S2 1000 23)) (fun v3 S4 => aI v3 (fun x5 => ((¬ x5 = 0 → (vp_in ((2 : Int32) + p0) 4 ∧ (((1 : Int32) = 0 ∨ (1 : Int32) = 1) ∧ Q (.int (1 : Int32)) (sa S4 1013 ((2 : Int32) + p0).toNatClampNeg (gi S4 1000 23))))) ∧ (x5 = 0 → (((0 : Int32) = 0 ∨ (0 : Int32) = 1) ∧ Q (.int (0 : Int32)) S4)))))))))) ∧ (¬ (ga S 1013 ((2 : Int32) + p0).toNatClampNeg) ≤ (ga S 1012 ((2 : Int32) + p0).toNatClampNeg) → (aWM d 9 [.ref 1000, .int (3 : Int32)] S (fun v6 S7 => aI v6 (fun x8 => (x8 = 0 ∨ x8 = 1) ∧ Q (.int x8) S7)))))))) : aWM (d + 1) 30 [.ref 1000, .int p0] S Q := aW_in rfl (aP_at h)
set_option maxRecDepth 100000 in
/-- begins()V -/
theorem mM_begins {d : Nat} {Q : Value → aS → Prop}  {S : aS} (h : aWM d 6 [.ref 1000] (si (si (si S 1000 3 (gi S 1000 1)) 1000 1 (0 : Int32)) 1000 4 (0 : Int32)) (fun v1 S2 => aV v1 (Q .null S2))) : aWM (d + 1) 31 [.ref 1000] S Q := aW_in rfl (aP_at h)
set_option maxRecDepth 100000 in
/-- readsAll()Z -/
theorem mM_readsAll {d : Nat} {Q : Value → aS → Prop}  {S : aS} (h : aBM d 32 Q 2 [some (.ref 1000), some (.int (4 : Int32))] [] S) : aWM (d + 1) 32 [.ref 1000] S Q := aW_in rfl (aP_at h)
set_option maxRecDepth 100000 in
theorem bM_readsAll_2 {d : Nat} {Q : Value → aS → Prop} {a1 : Int32} {S : aS} (h : (((8 : Int32) ≤ a1 → (aBM d 32 Q 19 [some (.ref 1000), some (.int (2 : Int32))] [] S)) ∧ (¬ (8 : Int32) ≤ a1 → ((¬ a1 = (6 : Int32) → (vp_in a1 8 ∧ (aBM d 32 Q 2 [some (.ref 1000), some (.int (a1 + (1 : Int32)))] [] (sa S 1002 a1.toNatClampNeg (0 : Int32))))) ∧ (a1 = (6 : Int32) → (vp_in a1 8 ∧ (aBM d 32 Q 2 [some (.ref 1000), some (.int (a1 + (1 : Int32)))] [] (sa S 1002 a1.toNatClampNeg (3 : Int32))))))))) : aBM d 32 Q 2 [some (.ref 1000), some (.int a1)] [] S := aM_bl h
set_option maxRecDepth 100000 in
theorem bM_readsAll_19 {d : Nat} {Q : Value → aS → Prop} {a1 : Int32} {S : aS} (h : (((4 : Int32) ≤ a1 → (((0 : Int32) = 0 ∨ (0 : Int32) = 1) ∧ (aWM d 31 [.ref 1000] (si (si S 1000 25 (0 : Int32)) 1000 23 (1000 : Int32)) (fun v1 S2 => aV v1 (aBM d 32 Q 42 [some (.ref 1000), none] [] S2))))) ∧ (¬ (4 : Int32) ≤ a1 → (vp_in a1 4 ∧ (vp_in a1 4 ∧ (aBM d 32 Q 19 [some (.ref 1000), some (.int (a1 + (1 : Int32)))] [] (sa (sa S 1012 a1.toNatClampNeg (1000 : Int32)) 1013 a1.toNatClampNeg (1000 : Int32)))))))) : aBM d 32 Q 19 [some (.ref 1000), some (.int a1)] [] S := aM_bl h
set_option maxRecDepth 100000 in
theorem bM_readsAll_42 {d : Nat} {Q : Value → aS → Prop}  {S : aS} (h : (((gi S 1000 6) = 0 → (((1 : Int32) = 0 ∨ (1 : Int32) = 1) ∧ Q (.int (1 : Int32)) S)) ∧ (¬ (gi S 1000 6) = 0 → (aWM d 7 [.ref 1000, .long (339782679 : Int64)] S (fun v1 S2 => aI v1 (fun x3 => ((x3 = 0 → (aWM d 7 [.ref 1000, .long (464134 : Int64)] S2 (fun v4 S5 => aI v4 (fun x6 => ((x6 = 0 → (aWM d 7 [.ref 1000, .long (6562612 : Int64)] S5 (fun v7 S8 => aI v7 (fun x9 => ((x9 = 0 → (aWM d 7 [.ref 1000, .long (1831769 : Int64)] S8 (fun v10 S11 => aI v10 (fun x12 => ((x12 = 0 → (aWM d 7 [.ref 1000, .long (3492766 : Int64)] S11 (fun v13 S14 => aI v13 (fun x15 => ((x15 = 0 → (aWM d 7 [.ref 1000, .long (339782680 : Int64)] S14 (fun v16 S17 => aI v16 (fun x18 => ((x18 = 0 → (aWM d 7 [.ref 1000, .long (89821 : Int64)] S17 (fun v19 S20 => aI v19 (fun x21 => ((x21 = 0 → (aWM d 9 [.ref 1000, .int (1 : Int32)] S20 (fun v22 S23 => aI v22 (fun x24 => ((¬ x24 = 0 → (aBM d 32 Q 42 [some (.ref 1000), none] [] S23)) ∧ (x24 = 0 → (((0 : Int32) = 0 ∨ (0 : Int32) = 1) ∧ Q (.int (0 : Int32)) S23))))))) ∧ (¬ x21 = 0 → (aWM d 30 [.ref 1000, .int (1 : Int32)] S20 (fun v25 S26 => aI v25 (fun x27 => ((¬ x27 = 0 → (aBM d 32 Q 42 [some (.ref 1000), none] [] S26)) ∧ (x27 = 0 → (((0 : Int32) = 0 ∨ (0 : Int32) = 1) ∧ Q (.int (0 : Int32)) S26)))))))))))) ∧ (¬ x18 = 0 → (aWM d 30 [.ref 1000, .int (0 : Int32)] S17 (fun v28 S29 => aI v28 (fun x30 => ((¬ x30 = 0 → (aBM d 32 Q 42 [some (.ref 1000), none] [] S29)) ∧ (x30 = 0 → (((0 : Int32) = 0 ∨ (0 : Int32) = 1) ∧ Q (.int (0 : Int32)) S29)))))))))))) ∧ (¬ x15 = 0 → (aWM d 29 [.ref 1000] S14 (fun v31 S32 => aI v31 (fun x33 => ((¬ x33 = 0 → (aBM d 32 Q 42 [some (.ref 1000), none] [] S32)) ∧ (x33 = 0 → (((0 : Int32) = 0 ∨ (0 : Int32) = 1) ∧ Q (.int (0 : Int32)) S32)))))))))))) ∧ (¬ x12 = 0 → (aWM d 28 [.ref 1000] S11 (fun v34 S35 => aI v34 (fun x36 => ((¬ x36 = 0 → (aBM d 32 Q 42 [some (.ref 1000), none] [] S35)) ∧ (x36 = 0 → (((0 : Int32) = 0 ∨ (0 : Int32) = 1) ∧ Q (.int (0 : Int32)) S35)))))))))))) ∧ (¬ x9 = 0 → (aWM d 27 [.ref 1000] S8 (fun v37 S38 => aI v37 (fun x39 => ((¬ x39 = 0 → (aBM d 32 Q 42 [some (.ref 1000), none] [] S38)) ∧ (x39 = 0 → (((0 : Int32) = 0 ∨ (0 : Int32) = 1) ∧ Q (.int (0 : Int32)) S38)))))))))))) ∧ (¬ x6 = 0 → (aWM d 26 [.ref 1000] S5 (fun v40 S41 => aI v40 (fun x42 => ((¬ x42 = 0 → (aBM d 32 Q 42 [some (.ref 1000), none] [] S41)) ∧ (x42 = 0 → (((0 : Int32) = 0 ∨ (0 : Int32) = 1) ∧ Q (.int (0 : Int32)) S41)))))))))))) ∧ (¬ x3 = 0 → (aWM d 25 [.ref 1000] S2 (fun v43 S44 => aI v43 (fun x45 => ((¬ x45 = 0 → (aBM d 32 Q 42 [some (.ref 1000), none] [] S44)) ∧ (x45 = 0 → (((0 : Int32) = 0 ∨ (0 : Int32) = 1) ∧ Q (.int (0 : Int32)) S44)))))))))))))) : aBM d 32 Q 42 [some (.ref 1000), none] [] S := aM_bl h
set_option maxRecDepth 100000 in
/-- shifts([II)V -/
theorem mM_shifts {d : Nat} {Q : Value → aS → Prop} {p0 : Nat} {p1 : Int32} {S : aS} (h : aBM d 33 Q 2 [some (.ref p0), some (.int p1), some (.int (0 : Int32))] [] S) : aWM (d + 1) 33 [.ref p0, .int p1] S Q := aW_in rfl (aP_at h)
set_option maxRecDepth 100000 in
theorem bM_shifts_2 {d : Nat} {Q : Value → aS → Prop} {a0 : Nat} {a1 : Int32} {a2 : Int32} {S : aS} (h : ((a1 ≤ a2 → (Q .null S)) ∧ (¬ a1 ≤ a2 → (aG (gK a0 30) (vp_in (a1 + a2) (aln a0) ∧ (aG (gK a0 30) (vp_in a2 (aln a0) ∧ (aBM d 33 Q 2 [some (.ref a0), some (.int a1), some (.int (a2 + (1 : Int32)))] [] (sa S a0 a2.toNatClampNeg (ga S a0 (a1 + a2).toNatClampNeg)))))))))) : aBM d 33 Q 2 [some (.ref a0), some (.int a1), some (.int a2)] [] S := aM_bl h
set_option maxRecDepth 100000 in
/-- lays()V -/
theorem mM_lays {d : Nat} {Q : Value → aS → Prop}  {S : aS} (h : aWM d 33 [.ref 1002, .int (4 : Int32)] S (fun v1 S2 => aV v1 (aBM d 34 Q 6 [some (.ref 1000), some (.int (0 : Int32))] [] S2))) : aWM (d + 1) 34 [.ref 1000] S Q := aW_in rfl (aP_at h)
set_option maxRecDepth 100000 in
theorem bM_lays_6 {d : Nat} {Q : Value → aS → Prop} {a1 : Int32} {S : aS} (h : (((12 : Int32) ≤ a1 → (aWM d 33 [.ref 1005, .int (5 : Int32)] S (fun v1 S2 => aV v1 (aWM d 33 [.ref 1006, .int (12 : Int32)] S2 (fun v3 S4 => aV v3 (aWM d 33 [.ref 1007, .int (12 : Int32)] S4 (fun v5 S6 => aV v5 (aWM d 33 [.ref 1008, .int (12 : Int32)] S6 (fun v7 S8 => aV v7 (aWM d 33 [.ref 1009, .int (12 : Int32)] S8 (fun v9 S10 => aV v9 (aWM d 33 [.ref 1010, .int (60 : Int32)] S10 (fun v11 S12 => aV v11 (aWM d 33 [.ref 1011, .int (12 : Int32)] S12 (fun v13 S14 => aV v13 (aWM d 33 [.ref 1014, .int (1000 : Int32)] S14 (fun v15 S16 => aV v15 (aBM d 34 Q 55 [some (.ref 1000), some (.int (0 : Int32))] [] S16)))))))))))))))))) ∧ (¬ (12 : Int32) ≤ a1 → (vp_in ((12 : Int32) + a1) 24 ∧ (vp_in a1 24 ∧ (aBM d 34 Q 6 [some (.ref 1000), some (.int (a1 + (1 : Int32)))] [] (sb S 1004 a1.toNatClampNeg (gb S 1004 ((12 : Int32) + a1).toNatClampNeg)))))))) : aBM d 34 Q 6 [some (.ref 1000), some (.int a1)] [] S := aM_bl h
set_option maxRecDepth 100000 in
theorem bM_lays_55 {d : Nat} {Q : Value → aS → Prop} {a1 : Int32} {S : aS} (h : (((2 : Int32) ≤ a1 → (Q .null S)) ∧ (¬ (2 : Int32) ≤ a1 → (vp_in ((2 : Int32) + a1) 4 ∧ (vp_in a1 4 ∧ (vp_in ((2 : Int32) + a1) 4 ∧ (vp_in a1 4 ∧ (aBM d 34 Q 55 [some (.ref 1000), some (.int (a1 + (1 : Int32)))] [] (sa (sa S 1012 a1.toNatClampNeg ((ga S 1012 ((2 : Int32) + a1).toNatClampNeg) - (1000 : Int32))) 1013 a1.toNatClampNeg ((ga (sa S 1012 a1.toNatClampNeg ((ga S 1012 ((2 : Int32) + a1).toNatClampNeg) - (1000 : Int32))) 1013 ((2 : Int32) + a1).toNatClampNeg) - (1000 : Int32))))))))))) : aBM d 34 Q 55 [some (.ref 1000), some (.int a1)] [] S := aM_bl h
set_option maxRecDepth 100000 in
/-- copies([II[II)V -/
theorem mM_copies {d : Nat} {Q : Value → aS → Prop} {p0 : Nat} {p1 : Int32} {p2 : Nat} {p3 : Int32} {S : aS} (h : aBM d 35 Q 2 [some (.ref p0), some (.int p1), some (.ref p2), some (.int p3), some (.int (0 : Int32))] [] S) : aWM (d + 1) 35 [.ref p0, .int p1, .ref p2, .int p3] S Q := aW_in rfl (aP_at h)
set_option maxRecDepth 100000 in
theorem bM_copies_2 {d : Nat} {Q : Value → aS → Prop} {a0 : Nat} {a1 : Int32} {a2 : Nat} {a3 : Int32} {a4 : Int32} {S : aS} (h : (((60 : Int32) ≤ a4 → (Q .null S)) ∧ (¬ (60 : Int32) ≤ a4 → (aG (gK a0 30) (vp_in (a1 + a4) (aln a0) ∧ (aG (gK a2 30) (vp_in (a3 + a4) (aln a2) ∧ (aBM d 35 Q 2 [some (.ref a0), some (.int a1), some (.ref a2), some (.int a3), some (.int (a4 + (1 : Int32)))] [] (sa S a2 (a3 + a4).toNatClampNeg (ga S a0 (a1 + a4).toNatClampNeg)))))))))) : aBM d 35 Q 2 [some (.ref a0), some (.int a1), some (.ref a2), some (.int a3), some (.int a4)] [] S := aM_bl h
set_option maxRecDepth 100000 in
/-- readsLine()Z -/
theorem mM_readsLine {d : Nat} {Q : Value → aS → Prop}  {S : aS} (h : aWM d 7 [.ref 1000, .long (12584543 : Int64)] S (fun v1 S2 => aI v1 (fun x3 => ((x3 = 0 → (aWM d 7 [.ref 1000, .long (55175 : Int64)] S2 (fun v4 S5 => aI v4 (fun x6 => ((x6 = 0 → (aWM d 7 [.ref 1000, .long (316189 : Int64)] S5 (fun v7 S8 => aI v7 (fun x9 => ((x9 = 0 → (aBM d 36 Q 19 [some (.ref 1000), none, none] [.int (-1 : Int32)] S8)) ∧ (¬ x9 = 0 → (aBM d 36 Q 19 [some (.ref 1000), none, none] [.int (2 : Int32)] S8))))))) ∧ (¬ x6 = 0 → (aBM d 36 Q 19 [some (.ref 1000), none, none] [.int (1 : Int32)] S5))))))) ∧ (¬ x3 = 0 → (aBM d 36 Q 19 [some (.ref 1000), none, none] [.int (0 : Int32)] S2)))))) : aWM (d + 1) 36 [.ref 1000] S Q := aW_in rfl (aP_at h)
set_option maxRecDepth 100000 in
theorem bM_readsLine_19 {d : Nat} {Q : Value → aS → Prop} {s0 : Int32} {S : aS} (h : ((0 ≤ s0 → (vp_in (5 : Int32) 6 ∧ (((¬ (ga S 1027 (5 : Int32).toNatClampNeg) = (40 : Int32) → (aWM d 6 [.ref 1000] S (fun v1 S2 => aV v1 (vp_in (5 : Int32) 6 ∧ (vp_in ((200 : Int32) + (ga S2 1027 (5 : Int32).toNatClampNeg)) 240 ∧ (((¬ s0 = 0 → ((¬ s0 = (1 : Int32) → (aBM d 36 Q 71 [some (.ref 1000), none, some (.int ((200 : Int32) + (ga S2 1027 (5 : Int32).toNatClampNeg)))] [] (sa S2 1028 ((200 : Int32) + (ga S2 1027 (5 : Int32).toNatClampNeg)).toNatClampNeg s0))) ∧ (s0 = (1 : Int32) → (aWM d 20 [.ref 1000, .int (0 : Int32), .int (9 : Int32)] (sa S2 1028 ((200 : Int32) + (ga S2 1027 (5 : Int32).toNatClampNeg)).toNatClampNeg s0) (fun v3 S4 => aI v3 (fun x5 => ((¬ x5 = 0 → (aBM d 36 Q 71 [some (.ref 1000), none, some (.int ((200 : Int32) + (ga S2 1027 (5 : Int32).toNatClampNeg)))] [] S4)) ∧ (x5 = 0 → (((0 : Int32) = 0 ∨ (0 : Int32) = 1) ∧ Q (.int (0 : Int32)) S4))))))))) ∧ (s0 = 0 → (aWM d 24 [.ref 1000, .int (0 : Int32)] (sa S2 1028 ((200 : Int32) + (ga S2 1027 (5 : Int32).toNatClampNeg)).toNatClampNeg s0) (fun v6 S7 => aI v6 (fun x8 => ((¬ x8 = 0 → (aWM d 6 [.ref 1000] S7 (fun v9 S10 => aV v9 (aBM d 36 Q 71 [some (.ref 1000), none, some (.int ((200 : Int32) + (ga S2 1027 (5 : Int32).toNatClampNeg)))] [] S10)))) ∧ (x8 = 0 → (((0 : Int32) = 0 ∨ (0 : Int32) = 1) ∧ Q (.int (0 : Int32)) S7)))))))))))))) ∧ ((ga S 1027 (5 : Int32).toNatClampNeg) = (40 : Int32) → (aWM d 9 [.ref 1000, .int (5 : Int32)] S (fun v11 S12 => aI v11 (fun x13 => (x13 = 0 ∨ x13 = 1) ∧ Q (.int x13) S12)))))))) ∧ (¬ 0 ≤ s0 → (aWM d 9 [.ref 1000, .int (1 : Int32)] S (fun v14 S15 => aI v14 (fun x16 => (x16 = 0 ∨ x16 = 1) ∧ Q (.int x16) S15)))))) : aBM d 36 Q 19 [some (.ref 1000), none, none] [.int s0] S := aM_bl h
set_option maxRecDepth 100000 in
theorem bM_readsLine_71 {d : Nat} {Q : Value → aS → Prop} {a2 : Int32} {S : aS} (h : vp_in a2 240 ∧ (vp_in (5 : Int32) 6 ∧ (vp_in (5 : Int32) 6 ∧ (aWM d 22 [.ref 1000] (sa (sa S 1029 a2.toNatClampNeg (gi S 1000 38)) 1027 (5 : Int32).toNatClampNeg ((ga (sa S 1029 a2.toNatClampNeg (gi S 1000 38)) 1027 (5 : Int32).toNatClampNeg) + (1 : Int32))) (fun v1 S2 => aI v1 (fun x3 => (x3 = 0 ∨ x3 = 1) ∧ Q (.int x3) S2)))))) : aBM d 36 Q 71 [some (.ref 1000), none, some (.int a2)] [] S := aM_bl h
set_option maxRecDepth 100000 in
/-- laysLines(II)V -/
theorem mM_laysLines {d : Nat} {Q : Value → aS → Prop} {p0 : Int32} {p1 : Int32} {S : aS} (h : vp_in p0 6 ∧ (vp_in p1 6 ∧ (aBM d 37 Q 10 [some (.ref 1000), some (.int p0), some (.int p1), some (.int (0 : Int32))] [] (sa S 1027 p1.toNatClampNeg (ga S 1027 p0.toNatClampNeg))))) : aWM (d + 1) 37 [.ref 1000, .int p0, .int p1] S Q := aW_in rfl (aP_at h)
set_option maxRecDepth 100000 in
theorem bM_laysLines_10 {d : Nat} {Q : Value → aS → Prop} {a1 : Int32} {a2 : Int32} {a3 : Int32} {S : aS} (h : (((40 : Int32) ≤ a3 → (Q .null S)) ∧ (¬ (40 : Int32) ≤ a3 → (vp_in (((40 : Int32) * a1) + a3) 240 ∧ (vp_in (((40 : Int32) * a2) + a3) 240 ∧ (vp_in (((40 : Int32) * a1) + a3) 240 ∧ (vp_in (((40 : Int32) * a2) + a3) 240 ∧ (aBM d 37 Q 10 [some (.ref 1000), some (.int a1), some (.int a2), some (.int (a3 + (1 : Int32)))] [] (sa (sa S 1028 (((40 : Int32) * a2) + a3).toNatClampNeg (ga S 1028 (((40 : Int32) * a1) + a3).toNatClampNeg)) 1029 (((40 : Int32) * a2) + a3).toNatClampNeg (ga (sa S 1028 (((40 : Int32) * a2) + a3).toNatClampNeg (ga S 1028 (((40 : Int32) * a1) + a3).toNatClampNeg)) 1029 (((40 : Int32) * a1) + a3).toNatClampNeg)))))))))) : aBM d 37 Q 10 [some (.ref 1000), some (.int a1), some (.int a2), some (.int a3)] [] S := aM_bl h
set_option maxRecDepth 100000 in
/-- laysRead(II)V -/
theorem mM_laysRead {d : Nat} {Q : Value → aS → Prop} {p0 : Int32} {p1 : Int32} {S : aS} (h : vp_in p0 5 ∧ (vp_in p1 5 ∧ (aBM d 38 Q 10 [some (.ref 1000), some (.int p0), some (.int p1), some (.int (0 : Int32))] [] (sa S 1030 p1.toNatClampNeg (ga S 1030 p0.toNatClampNeg))))) : aWM (d + 1) 38 [.ref 1000, .int p0, .int p1] S Q := aW_in rfl (aP_at h)
set_option maxRecDepth 100000 in
theorem bM_laysRead_10 {d : Nat} {Q : Value → aS → Prop} {a1 : Int32} {a2 : Int32} {a3 : Int32} {S : aS} (h : (((8 : Int32) ≤ a3 → (Q .null S)) ∧ (¬ (8 : Int32) ≤ a3 → (vp_in (((8 : Int32) * a1) + a3) 40 ∧ (vp_in (((8 : Int32) * a2) + a3) 40 ∧ (aBM d 38 Q 10 [some (.ref 1000), some (.int a1), some (.int a2), some (.int (a3 + (1 : Int32)))] [] (sa S 1031 (((8 : Int32) * a2) + a3).toNatClampNeg (ga S 1031 (((8 : Int32) * a1) + a3).toNatClampNeg)))))))) : aBM d 38 Q 10 [some (.ref 1000), some (.int a1), some (.int a2), some (.int a3)] [] S := aM_bl h
set_option maxRecDepth 100000 in
/-- fresh()V -/
theorem mM_fresh {d : Nat} {Q : Value → aS → Prop}  {S : aS} (h : aBM d 39 Q 2 [some (.ref 1000), some (.int (0 : Int32))] [] S) : aWM (d + 1) 39 [.ref 1000] S Q := aW_in rfl (aP_at h)
set_option maxRecDepth 100000 in
theorem bM_fresh_2 {d : Nat} {Q : Value → aS → Prop} {a1 : Int32} {S : aS} (h : (((60 : Int32) ≤ a1 → (aBM d 39 Q 14 [some (.ref 1000), some (.int (0 : Int32))] [] S)) ∧ (¬ (60 : Int32) ≤ a1 → (vp_in a1 60 ∧ (aBM d 39 Q 2 [some (.ref 1000), some (.int (a1 + (1 : Int32)))] [] (sa S 1032 a1.toNatClampNeg (0 : Int32))))))) : aBM d 39 Q 2 [some (.ref 1000), some (.int a1)] [] S := aM_bl h
set_option maxRecDepth 100000 in
theorem bM_fresh_14 {d : Nat} {Q : Value → aS → Prop} {a1 : Int32} {S : aS} (h : vp_in (1 : Int32) 8 ∧ ((((ga S 1002 (1 : Int32).toNatClampNeg) ≤ a1 → (Q .null S)) ∧ (¬ (ga S 1002 (1 : Int32).toNatClampNeg) ≤ a1 → (vp_in a1 24 ∧ (vp_in ((8 : Int32) + a1) 60 ∧ (aBM d 39 Q 14 [some (.ref 1000), some (.int (a1 + (1 : Int32)))] [] (sa S 1032 ((8 : Int32) + a1).toNatClampNeg (ga S 1009 a1.toNatClampNeg))))))))) : aBM d 39 Q 14 [some (.ref 1000), some (.int a1)] [] S := aM_bl h
set_option maxRecDepth 100000 in
/-- realm()I -/
theorem mM_realm {d : Nat} {Q : Value → aS → Prop}  {S : aS} (h : aWM d 32 [.ref 1000] (si S 1000 0 (0 : Int32)) (fun v1 S2 => aI v1 (fun x3 => ((¬ x3 = 0 → (aWM d 34 [.ref 1000] S2 (fun v4 S5 => aV v4 (aWM d 39 [.ref 1000] S5 (fun v6 S7 => aV v6 (vp_in (0 : Int32) 6 ∧ (vp_in (0 : Int32) 5 ∧ (aBM d 40 Q 28 [some (.ref 1000), some (.int (0 : Int32))] [] (si (sa (sa S7 1027 (0 : Int32).toNatClampNeg (0 : Int32)) 1030 (0 : Int32).toNatClampNeg (0 : Int32)) 1000 50 (0 : Int32)))))))))) ∧ (x3 = 0 → (Q (.int (gi S2 1000 9)) S2)))))) : aWM (d + 1) 40 [.ref 1000] S Q := aW_in rfl (aP_at h)
set_option maxRecDepth 100000 in
theorem bM_realm_28 {d : Nat} {Q : Value → aS → Prop} {a1 : Int32} {S : aS} (h : (((4 : Int32) ≤ a1 → (Q (.int (0 : Int32)) S)) ∧ (¬ (4 : Int32) ≤ a1 → (vp_in a1 4 ∧ (aBM d 40 Q 28 [some (.ref 1000), some (.int (a1 + (1 : Int32)))] [] (sa S 1036 a1.toNatClampNeg (vp_nar .boolean (0 : Int32)))))))) : aBM d 40 Q 28 [some (.ref 1000), some (.int a1)] [] S := aM_bl h
set_option maxRecDepth 100000 in
/-- sundays()I -/
theorem mM_sundays {d : Nat} {Q : Value → aS → Prop}  {S : aS} (h : vp_in (5 : Int32) 6 ∧ (aWM d 31 [.ref 1000] (si (sa (si S 1000 0 (0 : Int32)) 1027 (5 : Int32).toNatClampNeg (0 : Int32)) 1000 38 (0 : Int32)) (fun v1 S2 => aV v1 (aBM d 41 Q 13 [some (.ref 1000)] [] S2)))) : aWM (d + 1) 41 [.ref 1000] S Q := aW_in rfl (aP_at h)
set_option maxRecDepth 100000 in
theorem bM_sundays_13 {d : Nat} {Q : Value → aS → Prop}  {S : aS} (h : (((gi S 1000 6) = 0 → (aWM d 37 [.ref 1000, .int (5 : Int32), .int (0 : Int32)] S (fun v1 S2 => aV v1 (Q (.int (0 : Int32)) S2)))) ∧ (¬ (gi S 1000 6) = 0 → (aWM d 36 [.ref 1000] S (fun v3 S4 => aI v3 (fun x5 => ((¬ x5 = 0 → (aBM d 41 Q 13 [some (.ref 1000)] [] S4)) ∧ (x5 = 0 → (Q (.int (gi S4 1000 9)) S4))))))))) : aBM d 41 Q 13 [some (.ref 1000)] [] S := aM_bl h
set_option maxRecDepth 100000 in
/-- isWriter(I)Z -/
theorem mM_isWriter {d : Nat} {Q : Value → aS → Prop} {p0 : Int32} {S : aS} (h : ((p0 < 0 → (((0 : Int32) = 0 ∨ (0 : Int32) = 1) ∧ Q (.int (0 : Int32)) S)) ∧ (¬ p0 < 0 → (vp_in (0 : Int32) 8 ∧ ((((ga S 1002 (0 : Int32).toNatClampNeg) ≤ p0 → (((0 : Int32) = 0 ∨ (0 : Int32) = 1) ∧ Q (.int (0 : Int32)) S)) ∧ (¬ (ga S 1002 (0 : Int32).toNatClampNeg) ≤ p0 → (((1 : Int32) = 0 ∨ (1 : Int32) = 1) ∧ Q (.int (1 : Int32)) S)))))))) : aWM (d + 1) 42 [.ref 1000, .int p0] S Q := aW_in rfl (aP_at h)
set_option maxRecDepth 100000 in
/-- isTold(I)Z -/
theorem mM_isTold {d : Nat} {Q : Value → aS → Prop} {p0 : Int32} {S : aS} (h : ((p0 < 0 → (((0 : Int32) = 0 ∨ (0 : Int32) = 1) ∧ Q (.int (0 : Int32)) S)) ∧ (¬ p0 < 0 → (vp_in (1 : Int32) 8 ∧ ((((ga S 1002 (1 : Int32).toNatClampNeg) ≤ p0 → (((0 : Int32) = 0 ∨ (0 : Int32) = 1) ∧ Q (.int (0 : Int32)) S)) ∧ (¬ (ga S 1002 (1 : Int32).toNatClampNeg) ≤ p0 → (((1 : Int32) = 0 ∨ (1 : Int32) = 1) ∧ Q (.int (1 : Int32)) S)))))))) : aWM (d + 1) 43 [.ref 1000, .int p0] S Q := aW_in rfl (aP_at h)
set_option maxRecDepth 100000 in
/-- writerOf(II)I -/
theorem mM_writerOf {d : Nat} {Q : Value → aS → Prop} {p0 : Int32} {p1 : Int32} {S : aS} (h : vp_in (0 : Int32) 8 ∧ (((¬ (ga S 1002 (0 : Int32).toNatClampNeg) = 0 → (vp_in (0 : Int32) 8 ∧ (¬ (ga S 1002 (0 : Int32).toNatClampNeg) = 0 ∧ (Q (.int ((p0 + p1) - (p0 + p1) / (ga S 1002 (0 : Int32).toNatClampNeg) * (ga S 1002 (0 : Int32).toNatClampNeg))) S)))) ∧ ((ga S 1002 (0 : Int32).toNatClampNeg) = 0 → (Q (.int (-1 : Int32)) S))))) : aWM (d + 1) 44 [.ref 1000, .int p0, .int p1] S Q := aW_in rfl (aP_at h)
set_option maxRecDepth 100000 in
/-- likelyBy(III)I -/
theorem mM_likelyBy {d : Nat} {Q : Value → aS → Prop} {p0 : Int32} {p1 : Int32} {p2 : Int32} {S : aS} (h : vp_in ((8 : Int32) + p0) 60 ∧ (((¬ (ga S 1032 ((8 : Int32) + p0).toNatClampNeg) = 0 → ((0 ≤ p1 → (vp_in (((12 : Int32) * p1) + p0) 120 ∧ (((0 ≤ p1 → (vp_in p1 10 ∧ (aBM d 45 Q 30 [some (.ref 1000), some (.int p0), none, some (.int p2), some (.int (ga S 1010 (((12 : Int32) * p1) + p0).toNatClampNeg)), none, none] [.int (ga S 1005 p1.toNatClampNeg)] S))) ∧ (¬ 0 ≤ p1 → (aBM d 45 Q 30 [some (.ref 1000), some (.int p0), none, some (.int p2), some (.int (ga S 1010 (((12 : Int32) * p1) + p0).toNatClampNeg)), none, none] [.int (0 : Int32)] S)))))) ∧ (¬ 0 ≤ p1 → ((0 ≤ p1 → (vp_in p1 10 ∧ (aBM d 45 Q 30 [some (.ref 1000), some (.int p0), none, some (.int p2), some (.int (0 : Int32)), none, none] [.int (ga S 1005 p1.toNatClampNeg)] S))) ∧ (¬ 0 ≤ p1 → (aBM d 45 Q 30 [some (.ref 1000), some (.int p0), none, some (.int p2), some (.int (0 : Int32)), none, none] [.int (0 : Int32)] S)))))) ∧ ((ga S 1032 ((8 : Int32) + p0).toNatClampNeg) = 0 → (Q (.int (0 : Int32)) S))))) : aWM (d + 1) 45 [.ref 1000, .int p0, .int p1, .int p2] S Q := aW_in rfl (aP_at h)
set_option maxRecDepth 100000 in
theorem bM_likelyBy_30 {d : Nat} {Q : Value → aS → Prop} {a1 : Int32} {a3 : Int32} {a4 : Int32} {s0 : Int32} {S : aS} (h : ((¬ s0 = (2 : Int32) → ((¬ s0 = (1 : Int32) → (vp_in a1 24 ∧ (aBM d 45 Q 53 [some (.ref 1000), some (.int a1), none, some (.int a3), some (.int a4), some (.int s0), none] [.int ((ga S 1007 a1.toNatClampNeg) + a4)] S))) ∧ (s0 = (1 : Int32) → (vp_in a1 24 ∧ ((((ga S 1008 a1.toNatClampNeg) ≤ (9 : Int32) → (vp_in a1 24 ∧ (aBM d 45 Q 53 [some (.ref 1000), some (.int a1), none, some (.int a3), some (.int a4), some (.int s0), none] [.int ((ga S 1007 a1.toNatClampNeg) + a4)] S))) ∧ (¬ (ga S 1008 a1.toNatClampNeg) ≤ (9 : Int32) → (aBM d 45 Q 53 [some (.ref 1000), some (.int a1), none, some (.int a3), some (.int a4), some (.int s0), none] [.int (0 : Int32)] S)))))))) ∧ (s0 = (2 : Int32) → (aBM d 45 Q 53 [some (.ref 1000), some (.int a1), none, some (.int a3), some (.int a4), some (.int s0), none] [.int (1 : Int32)] S)))) : aBM d 45 Q 30 [some (.ref 1000), some (.int a1), none, some (.int a3), some (.int a4), none, none] [.int s0] S := aM_bl h
set_option maxRecDepth 100000 in
theorem bM_likelyBy_53 {d : Nat} {Q : Value → aS → Prop} {a1 : Int32} {a3 : Int32} {a4 : Int32} {a5 : Int32} {s0 : Int32} {S : aS} (h : vp_in (0 : Int32) 4 ∧ (vp_in (0 : Int32) 4 ∧ ((((ga S 1013 (0 : Int32).toNatClampNeg) ≤ (ga S 1012 (0 : Int32).toNatClampNeg) → (aBM d 45 Q 103 [none, none, none, none, none, some (.int a5), some (.int s0)] [] S)) ∧ (¬ (ga S 1013 (0 : Int32).toNatClampNeg) ≤ (ga S 1012 (0 : Int32).toNatClampNeg) → (vp_in a1 24 ∧ (vp_in (1 : Int32) 20 ∧ (vp_in (2 : Int32) 20 ∧ (vp_in a1 24 ∧ (vp_in (3 : Int32) 20 ∧ (vp_in ((8 : Int32) + a1) 60 ∧ (vp_in (4 : Int32) 20 ∧ (vp_in (5 : Int32) 20 ∧ (aWM d 16 [.ref 1000, .int (0 : Int32)] (sa (sa (sa (sa (sa S 1026 (1 : Int32).toNatClampNeg (ga S 1007 a1.toNatClampNeg)) 1026 (2 : Int32).toNatClampNeg a4) 1026 (3 : Int32).toNatClampNeg (ga (sa (sa S 1026 (1 : Int32).toNatClampNeg (ga S 1007 a1.toNatClampNeg)) 1026 (2 : Int32).toNatClampNeg a4) 1008 a1.toNatClampNeg)) 1026 (4 : Int32).toNatClampNeg (ga (sa (sa (sa S 1026 (1 : Int32).toNatClampNeg (ga S 1007 a1.toNatClampNeg)) 1026 (2 : Int32).toNatClampNeg a4) 1026 (3 : Int32).toNatClampNeg (ga (sa (sa S 1026 (1 : Int32).toNatClampNeg (ga S 1007 a1.toNatClampNeg)) 1026 (2 : Int32).toNatClampNeg a4) 1008 a1.toNatClampNeg)) 1032 ((8 : Int32) + a1).toNatClampNeg)) 1026 (5 : Int32).toNatClampNeg a3) (fun v1 S2 => aI v1 (fun x3 => aBM d 45 Q 103 [none, none, none, none, none, some (.int a5), some (.int x3)] [] S2)))))))))))))))) : aBM d 45 Q 53 [some (.ref 1000), some (.int a1), none, some (.int a3), some (.int a4), some (.int a5), none] [.int s0] S := aM_bl h
set_option maxRecDepth 100000 in
theorem bM_likelyBy_103 {d : Nat} {Q : Value → aS → Prop} {a5 : Int32} {a6 : Int32} {S : aS} (h : aWM d 2 [.int a6, .int (0 : Int32), .int (99 : Int32)] S (fun v1 S2 => aI v1 (fun x3 => ((¬ a5 = (3 : Int32) → (Q (.int x3) S2)) ∧ (a5 = (3 : Int32) → (Q (.int (if (1 : Int32) < x3 then x3 else (1 : Int32))) S2)))))) : aBM d 45 Q 103 [none, none, none, none, none, some (.int a5), some (.int a6)] [] S := aM_bl h
set_option maxRecDepth 100000 in
/-- aheadOf(I)I -/
theorem mM_aheadOf {d : Nat} {Q : Value → aS → Prop} {p0 : Int32} {S : aS} (h : ((¬ p0 = 0 → (vp_in (((4 : Int32) + p0) - (1 : Int32)) 60 ∧ (vp_in (ga S 1032 (((4 : Int32) + p0) - (1 : Int32)).toNatClampNeg) 24 ∧ (Q (.int (ga S 1008 (ga S 1032 (((4 : Int32) + p0) - (1 : Int32)).toNatClampNeg).toNatClampNeg)) S)))) ∧ (p0 = 0 → (Q (.int (0 : Int32)) S)))) : aWM (d + 1) 46 [.ref 1000, .int p0] S Q := aW_in rfl (aP_at h)
set_option maxRecDepth 100000 in
/-- likelyNow(I)I -/
theorem mM_likelyNow {d : Nat} {Q : Value → aS → Prop} {p0 : Int32} {S : aS} (h : vp_in (0 : Int32) 60 ∧ (vp_in (1 : Int32) 60 ∧ (aWM d 44 [.ref 1000, .int (ga S 1032 (0 : Int32).toNatClampNeg), .int (ga S 1032 (1 : Int32).toNatClampNeg)] S (fun v1 S2 => aI v1 (fun x3 => vp_in (1 : Int32) 60 ∧ (aWM d 46 [.ref 1000, .int (ga S2 1032 (1 : Int32).toNatClampNeg)] S2 (fun v4 S5 => aI v4 (fun x6 => aWM d 45 [.ref 1000, .int p0, .int x3, .int x6] S5 (fun v7 S8 => aI v7 (fun x9 => Q (.int x9) S8)))))))))) : aWM (d + 1) 47 [.ref 1000, .int p0] S Q := aW_in rfl (aP_at h)
set_option maxRecDepth 100000 in
/-- allLikely(III)I -/
theorem mM_allLikely {d : Nat} {Q : Value → aS → Prop} {p0 : Int32} {p1 : Int32} {p2 : Int32} {S : aS} (h : aBM d 48 Q 4 [some (.ref 1000), some (.int p0), some (.int p1), some (.int p2), some (.int (0 : Int32)), some (.int (0 : Int32))] [] S) : aWM (d + 1) 48 [.ref 1000, .int p0, .int p1, .int p2] S Q := aW_in rfl (aP_at h)
set_option maxRecDepth 100000 in
theorem bM_allLikely_4 {d : Nat} {Q : Value → aS → Prop} {a1 : Int32} {a2 : Int32} {a3 : Int32} {a4 : Int32} {a5 : Int32} {S : aS} (h : vp_in (1 : Int32) 8 ∧ ((((ga S 1002 (1 : Int32).toNatClampNeg) ≤ a5 → (Q (.int a4) S)) ∧ (¬ (ga S 1002 (1 : Int32).toNatClampNeg) ≤ a5 → (vp_in a5 24 ∧ (((¬ (ga S 1006 a5.toNatClampNeg) = a1 → (aBM d 48 Q 4 [some (.ref 1000), some (.int a1), some (.int a2), some (.int a3), some (.int (a4 + (0 : Int32))), some (.int (a5 + (1 : Int32)))] [] S)) ∧ ((ga S 1006 a5.toNatClampNeg) = a1 → (aWM d 45 [.ref 1000, .int a5, .int a2, .int a3] S (fun v1 S2 => aI v1 (fun x3 => aBM d 48 Q 4 [some (.ref 1000), some (.int a1), some (.int a2), some (.int a3), some (.int (a4 + x3)), some (.int (a5 + (1 : Int32)))] [] S2))))))))))) : aBM d 48 Q 4 [some (.ref 1000), some (.int a1), some (.int a2), some (.int a3), some (.int a4), some (.int a5)] [] S := aM_bl h
set_option maxRecDepth 100000 in
/-- doesBy(II)I -/
theorem mM_doesBy {d : Nat} {Q : Value → aS → Prop} {p0 : Int32} {p1 : Int32} {S : aS} (h : vp_in (1 : Int32) 4 ∧ (vp_in (1 : Int32) 4 ∧ ((((ga S 1013 (1 : Int32).toNatClampNeg) ≤ (ga S 1012 (1 : Int32).toNatClampNeg) → (aWM d 2 [.int p0, .int (0 : Int32), .int (99 : Int32)] S (fun v1 S2 => aI v1 (fun x3 => Q (.int x3) S2)))) ∧ (¬ (ga S 1013 (1 : Int32).toNatClampNeg) ≤ (ga S 1012 (1 : Int32).toNatClampNeg) → (vp_in (6 : Int32) 20 ∧ (vp_in (7 : Int32) 20 ∧ (vp_in (3 : Int32) 60 ∧ (vp_in (8 : Int32) 20 ∧ (aWM d 16 [.ref 1000, .int (1 : Int32)] (sa (sa (sa S 1026 (6 : Int32).toNatClampNeg p0) 1026 (7 : Int32).toNatClampNeg p1) 1026 (8 : Int32).toNatClampNeg (ga (sa (sa S 1026 (6 : Int32).toNatClampNeg p0) 1026 (7 : Int32).toNatClampNeg p1) 1032 (3 : Int32).toNatClampNeg)) (fun v4 S5 => aI v4 (fun x6 => aWM d 2 [.int x6, .int (0 : Int32), .int (99 : Int32)] S5 (fun v7 S8 => aI v7 (fun x9 => Q (.int x9) S8)))))))))))))) : aWM (d + 1) 49 [.ref 1000, .int p0, .int p1] S Q := aW_in rfl (aP_at h)
set_option maxRecDepth 100000 in
/-- writer(II)I -/
theorem mM_writer {d : Nat} {Q : Value → aS → Prop} {p0 : Int32} {p1 : Int32} {S : aS} (h : aWM d 42 [.ref 1000, .int p0] (si S 1000 0 (0 : Int32)) (fun v1 S2 => aI v1 (fun x3 => ((x3 = 0 → (Q (.int (-2 : Int32)) S2)) ∧ (¬ x3 = 0 → ((p1 < 0 → (Q (.int (-2 : Int32)) S2)) ∧ (¬ p1 < 0 → (vp_in (1 : Int32) 8 ∧ (((p1 ≤ (ga S2 1002 (1 : Int32).toNatClampNeg) → ((¬ p1 = 0 → (vp_in ((((12 : Int32) * p0) + p1) - (1 : Int32)) 120 ∧ (Q (.int (ga S2 1010 ((((12 : Int32) * p0) + p1) - (1 : Int32)).toNatClampNeg)) S2))) ∧ (p1 = 0 → (vp_in p0 10 ∧ (Q (.int (ga S2 1005 p0.toNatClampNeg)) S2))))) ∧ (¬ p1 ≤ (ga S2 1002 (1 : Int32).toNatClampNeg) → (Q (.int (-2 : Int32)) S2)))))))))))) : aWM (d + 1) 50 [.ref 1000, .int p0, .int p1] S Q := aW_in rfl (aP_at h)
set_option maxRecDepth 100000 in
/-- word(II)I -/
theorem mM_word {d : Nat} {Q : Value → aS → Prop} {p0 : Int32} {p1 : Int32} {S : aS} (h : aWM d 43 [.ref 1000, .int p0] (si S 1000 0 (0 : Int32)) (fun v1 S2 => aI v1 (fun x3 => ((x3 = 0 → (Q (.int (-2 : Int32)) S2)) ∧ (¬ x3 = 0 → (aWM d 1 [.int p1, .int (0 : Int32), .int (4 : Int32)] S2 (fun v4 S5 => aI v4 (fun x6 => ((¬ x6 = 0 → (((3 : Int32) ≤ p1 → ((¬ p1 = (3 : Int32) → (vp_in p0 24 ∧ (vp_in (1 : Int32) 60 ∧ (((¬ (ga S5 1006 p0.toNatClampNeg) = (ga S5 1032 (1 : Int32).toNatClampNeg) → (Q (.int (-1 : Int32)) S5)) ∧ ((ga S5 1006 p0.toNatClampNeg) = (ga S5 1032 (1 : Int32).toNatClampNeg) → (aWM d 47 [.ref 1000, .int p0] S5 (fun v7 S8 => aI v7 (fun x9 => Q (.int x9) S8))))))))) ∧ (p1 = (3 : Int32) → (vp_in ((8 : Int32) + p0) 60 ∧ (Q (.int (ga S5 1032 ((8 : Int32) + p0).toNatClampNeg)) S5))))) ∧ (¬ (3 : Int32) ≤ p1 → ((¬ p1 = 0 → ((¬ p1 = (1 : Int32) → (vp_in p0 24 ∧ (Q (.int (ga S5 1008 p0.toNatClampNeg)) S5))) ∧ (p1 = (1 : Int32) → (vp_in p0 24 ∧ (Q (.int (ga S5 1007 p0.toNatClampNeg)) S5))))) ∧ (p1 = 0 → (vp_in p0 24 ∧ (Q (.int (ga S5 1006 p0.toNatClampNeg)) S5))))))) ∧ (x6 = 0 → (Q (.int (-2 : Int32)) S5))))))))))) : aWM (d + 1) 51 [.ref 1000, .int p0, .int p1] S Q := aW_in rfl (aP_at h)
set_option maxRecDepth 100000 in
/-- strip(I)I -/
theorem mM_strip {d : Nat} {Q : Value → aS → Prop} {p0 : Int32} {S : aS} (h : ((p0 < 0 → (Q (.int (-1 : Int32)) (si S 1000 0 (0 : Int32)))) ∧ (¬ p0 < 0 → (vp_in (1 : Int32) 60 ∧ ((((ga (si S 1000 0 (0 : Int32)) 1032 (1 : Int32).toNatClampNeg) ≤ p0 → (Q (.int (-1 : Int32)) (si S 1000 0 (0 : Int32)))) ∧ (¬ (ga (si S 1000 0 (0 : Int32)) 1032 (1 : Int32).toNatClampNeg) ≤ p0 → (vp_in ((4 : Int32) + p0) 60 ∧ (Q (.int (ga (si S 1000 0 (0 : Int32)) 1032 ((4 : Int32) + p0).toNatClampNeg)) (si S 1000 0 (0 : Int32))))))))))) : aWM (d + 1) 52 [.ref 1000, .int p0] S Q := aW_in rfl (aP_at h)
set_option maxRecDepth 100000 in
/-- spike(II)I -/
theorem mM_spike {d : Nat} {Q : Value → aS → Prop} {p0 : Int32} {p1 : Int32} {S : aS} (h : ((p0 < 0 → (Q (.int (-1 : Int32)) (si S 1000 0 (0 : Int32)))) ∧ (¬ p0 < 0 → (vp_in (3 : Int32) 60 ∧ ((((ga (si S 1000 0 (0 : Int32)) 1032 (3 : Int32).toNatClampNeg) ≤ p0 → (Q (.int (-1 : Int32)) (si S 1000 0 (0 : Int32)))) ∧ (¬ (ga (si S 1000 0 (0 : Int32)) 1032 (3 : Int32).toNatClampNeg) ≤ p0 → ((p1 < 0 → (Q (.int (-1 : Int32)) (si S 1000 0 (0 : Int32)))) ∧ (¬ p1 < 0 → (vp_in (2 : Int32) 8 ∧ ((((ga (si S 1000 0 (0 : Int32)) 1002 (2 : Int32).toNatClampNeg) ≤ p1 → (Q (.int (-1 : Int32)) (si S 1000 0 (0 : Int32)))) ∧ (¬ (ga (si S 1000 0 (0 : Int32)) 1002 (2 : Int32).toNatClampNeg) ≤ p1 → (vp_in (((20 : Int32) + ((4 : Int32) * p0)) + p1) 60 ∧ (Q (.int (ga (si S 1000 0 (0 : Int32)) 1032 (((20 : Int32) + ((4 : Int32) * p0)) + p1).toNatClampNeg)) (si S 1000 0 (0 : Int32))))))))))))))))) : aWM (d + 1) 53 [.ref 1000, .int p0, .int p1] S Q := aW_in rfl (aP_at h)
set_option maxRecDepth 100000 in
/-- keeps()V -/
theorem mM_keeps {d : Nat} {Q : Value → aS → Prop}  {S : aS} (h : ((¬ (gi S 1000 50) = (16 : Int32) → (aBM d 54 Q 27 [some (.ref 1000), none] [] S)) ∧ ((gi S 1000 50) = (16 : Int32) → (aBM d 54 Q 6 [some (.ref 1000), some (.int (0 : Int32))] [] S)))) : aWM (d + 1) 54 [.ref 1000] S Q := aW_in rfl (aP_at h)
set_option maxRecDepth 100000 in
theorem bM_keeps_6 {d : Nat} {Q : Value → aS → Prop} {a1 : Int32} {S : aS} (h : (((900 : Int32) ≤ a1 → (aBM d 54 Q 27 [some (.ref 1000), none] [] (si S 1000 50 ((gi S 1000 50) - (1 : Int32))))) ∧ (¬ (900 : Int32) ≤ a1 → (vp_in (a1 + (60 : Int32)) 960 ∧ (vp_in a1 960 ∧ (aBM d 54 Q 6 [some (.ref 1000), some (.int (a1 + (1 : Int32)))] [] (sa S 1035 a1.toNatClampNeg (ga S 1035 (a1 + (60 : Int32)).toNatClampNeg)))))))) : aBM d 54 Q 6 [some (.ref 1000), some (.int a1)] [] S := aM_bl h
set_option maxRecDepth 100000 in
theorem bM_keeps_27 {d : Nat} {Q : Value → aS → Prop}  {S : aS} (h : aWM d 35 [.ref 1032, .int (0 : Int32), .ref 1035, .int ((60 : Int32) * (gi S 1000 50))] S (fun v1 S2 => aV v1 (Q .null (si S2 1000 50 ((gi S2 1000 50) + (1 : Int32)))))) : aBM d 54 Q 27 [some (.ref 1000), none] [] S := aM_bl h
set_option maxRecDepth 100000 in
/-- canWrite(I)Z -/
theorem mM_canWrite {d : Nat} {Q : Value → aS → Prop} {p0 : Int32} {S : aS} (h : vp_in p0 24 ∧ (vp_in (1 : Int32) 60 ∧ (((¬ (ga S 1006 p0.toNatClampNeg) = (ga S 1032 (1 : Int32).toNatClampNeg) → (((0 : Int32) = 0 ∨ (0 : Int32) = 1) ∧ Q (.int (0 : Int32)) S)) ∧ ((ga S 1006 p0.toNatClampNeg) = (ga S 1032 (1 : Int32).toNatClampNeg) → (vp_in ((8 : Int32) + p0) 60 ∧ ((((ga S 1032 ((8 : Int32) + p0).toNatClampNeg) ≤ 0 → (((0 : Int32) = 0 ∨ (0 : Int32) = 1) ∧ Q (.int (0 : Int32)) S)) ∧ (¬ (ga S 1032 ((8 : Int32) + p0).toNatClampNeg) ≤ 0 → (((1 : Int32) = 0 ∨ (1 : Int32) = 1) ∧ Q (.int (1 : Int32)) S)))))))))) : aWM (d + 1) 55 [.ref 1000, .int p0] S Q := aW_in rfl (aP_at h)
set_option maxRecDepth 100000 in
/-- fallsOff(I)V -/
theorem mM_fallsOff {d : Nat} {Q : Value → aS → Prop} {p0 : Int32} {S : aS} (h : aBM d 56 Q 6 [some (.ref 1000), none, some (.int ((20 : Int32) + ((4 : Int32) * p0)))] [] S) : aWM (d + 1) 56 [.ref 1000, .int p0] S Q := aW_in rfl (aP_at h)
set_option maxRecDepth 100000 in
theorem bM_fallsOff_6 {d : Nat} {Q : Value → aS → Prop} {a2 : Int32} {S : aS} (h : (((56 : Int32) ≤ a2 → (vp_in (3 : Int32) 60 ∧ (vp_in (3 : Int32) 60 ∧ (Q .null (sa S 1032 (3 : Int32).toNatClampNeg ((ga S 1032 (3 : Int32).toNatClampNeg) - (1 : Int32))))))) ∧ (¬ (56 : Int32) ≤ a2 → (vp_in (a2 + (4 : Int32)) 60 ∧ (vp_in a2 60 ∧ (aBM d 56 Q 6 [some (.ref 1000), none, some (.int (a2 + (1 : Int32)))] [] (sa S 1032 a2.toNatClampNeg (ga S 1032 (a2 + (4 : Int32)).toNatClampNeg)))))))) : aBM d 56 Q 6 [some (.ref 1000), none, some (.int a2)] [] S := aM_bl h
set_option maxRecDepth 100000 in
/-- ends()V -/
theorem mM_ends {d : Nat} {Q : Value → aS → Prop}  {S : aS} (h : aBM d 57 Q 6 [some (.ref 1000), some (.int (0 : Int32)), some (.int (0 : Int32)), some (.int (0 : Int32))] [] S) : aWM (d + 1) 57 [.ref 1000] S Q := aW_in rfl (aP_at h)
set_option maxRecDepth 100000 in
theorem bM_ends_6 {d : Nat} {Q : Value → aS → Prop} {a1 : Int32} {a2 : Int32} {a3 : Int32} {S : aS} (h : vp_in (2 : Int32) 8 ∧ ((((ga S 1002 (2 : Int32).toNatClampNeg) ≤ a3 → (aWM d 49 [.ref 1000, .int a1, .int a2] S (fun v1 S2 => aI v1 (fun x3 => vp_in (2 : Int32) 60 ∧ (vp_in (2 : Int32) 60 ∧ (vp_in (3 : Int32) 60 ∧ (((¬ (ga (sa (si S2 1000 51 x3) 1032 (2 : Int32).toNatClampNeg ((ga (si S2 1000 51 x3) 1032 (2 : Int32).toNatClampNeg) + (gi (si S2 1000 51 x3) 1000 51))) 1032 (3 : Int32).toNatClampNeg) = (10 : Int32) → (aBM d 57 Q 64 [some (.ref 1000), none, none, some (.int (0 : Int32))] [] (sa (si S2 1000 51 x3) 1032 (2 : Int32).toNatClampNeg ((ga (si S2 1000 51 x3) 1032 (2 : Int32).toNatClampNeg) + (gi (si S2 1000 51 x3) 1000 51))))) ∧ ((ga (sa (si S2 1000 51 x3) 1032 (2 : Int32).toNatClampNeg ((ga (si S2 1000 51 x3) 1032 (2 : Int32).toNatClampNeg) + (gi (si S2 1000 51 x3) 1000 51))) 1032 (3 : Int32).toNatClampNeg) = (10 : Int32) → (aWM d 56 [.ref 1000, .int (0 : Int32)] (sa (si S2 1000 51 x3) 1032 (2 : Int32).toNatClampNeg ((ga (si S2 1000 51 x3) 1032 (2 : Int32).toNatClampNeg) + (gi (si S2 1000 51 x3) 1000 51))) (fun v4 S5 => aV v4 (aBM d 57 Q 64 [some (.ref 1000), none, none, some (.int (0 : Int32))] [] S5)))))))))))) ∧ (¬ (ga S 1002 (2 : Int32).toNatClampNeg) ≤ a3 → (vp_in ((4 : Int32) + a3) 60 ∧ (vp_in (ga S 1032 ((4 : Int32) + a3).toNatClampNeg) 24 ∧ (vp_in ((4 : Int32) + a3) 60 ∧ (vp_in (ga S 1032 ((4 : Int32) + a3).toNatClampNeg) 24 ∧ (aBM d 57 Q 6 [some (.ref 1000), some (.int (a1 + (ga S 1008 (ga S 1032 ((4 : Int32) + a3).toNatClampNeg).toNatClampNeg))), some (.int (if a2 < (ga S 1008 (ga S 1032 ((4 : Int32) + a3).toNatClampNeg).toNatClampNeg) then (ga S 1008 (ga S 1032 ((4 : Int32) + a3).toNatClampNeg).toNatClampNeg) else a2)), some (.int (a3 + (1 : Int32)))] [] S))))))))) : aBM d 57 Q 6 [some (.ref 1000), some (.int a1), some (.int a2), some (.int a3)] [] S := aM_bl h
set_option maxRecDepth 100000 in
theorem bM_ends_64 {d : Nat} {Q : Value → aS → Prop} {a3 : Int32} {S : aS} (h : vp_in (2 : Int32) 8 ∧ ((((ga S 1002 (2 : Int32).toNatClampNeg) ≤ a3 → (vp_in (3 : Int32) 60 ∧ (vp_in (3 : Int32) 60 ∧ (vp_in (1 : Int32) 60 ∧ (vp_in (0 : Int32) 8 ∧ (((¬ (ga (sa (sa S 1032 (3 : Int32).toNatClampNeg ((ga S 1032 (3 : Int32).toNatClampNeg) + (1 : Int32))) 1032 (1 : Int32).toNatClampNeg (0 : Int32)) 1002 (0 : Int32).toNatClampNeg) = 0 → (vp_in (0 : Int32) 60 ∧ (vp_in (0 : Int32) 8 ∧ (¬ (ga (sa (sa S 1032 (3 : Int32).toNatClampNeg ((ga S 1032 (3 : Int32).toNatClampNeg) + (1 : Int32))) 1032 (1 : Int32).toNatClampNeg (0 : Int32)) 1002 (0 : Int32).toNatClampNeg) = 0 ∧ (vp_in (0 : Int32) 60 ∧ (Q .null (sa (sa (sa S 1032 (3 : Int32).toNatClampNeg ((ga S 1032 (3 : Int32).toNatClampNeg) + (1 : Int32))) 1032 (1 : Int32).toNatClampNeg (0 : Int32)) 1032 (0 : Int32).toNatClampNeg (((ga (sa (sa S 1032 (3 : Int32).toNatClampNeg ((ga S 1032 (3 : Int32).toNatClampNeg) + (1 : Int32))) 1032 (1 : Int32).toNatClampNeg (0 : Int32)) 1032 (0 : Int32).toNatClampNeg) + (1 : Int32)) - ((ga (sa (sa S 1032 (3 : Int32).toNatClampNeg ((ga S 1032 (3 : Int32).toNatClampNeg) + (1 : Int32))) 1032 (1 : Int32).toNatClampNeg (0 : Int32)) 1032 (0 : Int32).toNatClampNeg) + (1 : Int32)) / (ga (sa (sa S 1032 (3 : Int32).toNatClampNeg ((ga S 1032 (3 : Int32).toNatClampNeg) + (1 : Int32))) 1032 (1 : Int32).toNatClampNeg (0 : Int32)) 1002 (0 : Int32).toNatClampNeg) * (ga (sa (sa S 1032 (3 : Int32).toNatClampNeg ((ga S 1032 (3 : Int32).toNatClampNeg) + (1 : Int32))) 1032 (1 : Int32).toNatClampNeg (0 : Int32)) 1002 (0 : Int32).toNatClampNeg))))))))) ∧ ((ga (sa (sa S 1032 (3 : Int32).toNatClampNeg ((ga S 1032 (3 : Int32).toNatClampNeg) + (1 : Int32))) 1032 (1 : Int32).toNatClampNeg (0 : Int32)) 1002 (0 : Int32).toNatClampNeg) = 0 → (vp_in (0 : Int32) 60 ∧ (Q .null (sa (sa (sa S 1032 (3 : Int32).toNatClampNeg ((ga S 1032 (3 : Int32).toNatClampNeg) + (1 : Int32))) 1032 (1 : Int32).toNatClampNeg (0 : Int32)) 1032 (0 : Int32).toNatClampNeg (0 : Int32)))))))))))) ∧ (¬ (ga S 1002 (2 : Int32).toNatClampNeg) ≤ a3 → (vp_in (3 : Int32) 60 ∧ (vp_in ((4 : Int32) + a3) 60 ∧ (vp_in (((20 : Int32) + ((4 : Int32) * (ga S 1032 (3 : Int32).toNatClampNeg))) + a3) 60 ∧ (aBM d 57 Q 64 [some (.ref 1000), none, none, some (.int (a3 + (1 : Int32)))] [] (sa S 1032 (((20 : Int32) + ((4 : Int32) * (ga S 1032 (3 : Int32).toNatClampNeg))) + a3).toNatClampNeg (ga S 1032 ((4 : Int32) + a3).toNatClampNeg)))))))))) : aBM d 57 Q 64 [some (.ref 1000), none, none, some (.int a3)] [] S := aM_bl h
set_option maxRecDepth 100000 in
/-- laysWord(I)V -/
theorem mM_laysWord {d : Nat} {Q : Value → aS → Prop} {p0 : Int32} {S : aS} (h : vp_in ((8 : Int32) + p0) 60 ∧ (vp_in ((8 : Int32) + p0) 60 ∧ (vp_in (1 : Int32) 60 ∧ (vp_in ((4 : Int32) + (ga (sa S 1032 ((8 : Int32) + p0).toNatClampNeg ((ga S 1032 ((8 : Int32) + p0).toNatClampNeg) - (1 : Int32))) 1032 (1 : Int32).toNatClampNeg)) 60 ∧ (vp_in (1 : Int32) 60 ∧ (vp_in (1 : Int32) 60 ∧ (vp_in (1 : Int32) 60 ∧ (vp_in (2 : Int32) 8 ∧ (((¬ (ga (sa (sa (sa S 1032 ((8 : Int32) + p0).toNatClampNeg ((ga S 1032 ((8 : Int32) + p0).toNatClampNeg) - (1 : Int32))) 1032 ((4 : Int32) + (ga (sa S 1032 ((8 : Int32) + p0).toNatClampNeg ((ga S 1032 ((8 : Int32) + p0).toNatClampNeg) - (1 : Int32))) 1032 (1 : Int32).toNatClampNeg)).toNatClampNeg p0) 1032 (1 : Int32).toNatClampNeg ((ga (sa (sa S 1032 ((8 : Int32) + p0).toNatClampNeg ((ga S 1032 ((8 : Int32) + p0).toNatClampNeg) - (1 : Int32))) 1032 ((4 : Int32) + (ga (sa S 1032 ((8 : Int32) + p0).toNatClampNeg ((ga S 1032 ((8 : Int32) + p0).toNatClampNeg) - (1 : Int32))) 1032 (1 : Int32).toNatClampNeg)).toNatClampNeg p0) 1032 (1 : Int32).toNatClampNeg) + (1 : Int32))) 1032 (1 : Int32).toNatClampNeg) = (ga (sa (sa (sa S 1032 ((8 : Int32) + p0).toNatClampNeg ((ga S 1032 ((8 : Int32) + p0).toNatClampNeg) - (1 : Int32))) 1032 ((4 : Int32) + (ga (sa S 1032 ((8 : Int32) + p0).toNatClampNeg ((ga S 1032 ((8 : Int32) + p0).toNatClampNeg) - (1 : Int32))) 1032 (1 : Int32).toNatClampNeg)).toNatClampNeg p0) 1032 (1 : Int32).toNatClampNeg ((ga (sa (sa S 1032 ((8 : Int32) + p0).toNatClampNeg ((ga S 1032 ((8 : Int32) + p0).toNatClampNeg) - (1 : Int32))) 1032 ((4 : Int32) + (ga (sa S 1032 ((8 : Int32) + p0).toNatClampNeg ((ga S 1032 ((8 : Int32) + p0).toNatClampNeg) - (1 : Int32))) 1032 (1 : Int32).toNatClampNeg)).toNatClampNeg p0) 1032 (1 : Int32).toNatClampNeg) + (1 : Int32))) 1002 (2 : Int32).toNatClampNeg) → (Q .null (sa (sa (sa S 1032 ((8 : Int32) + p0).toNatClampNeg ((ga S 1032 ((8 : Int32) + p0).toNatClampNeg) - (1 : Int32))) 1032 ((4 : Int32) + (ga (sa S 1032 ((8 : Int32) + p0).toNatClampNeg ((ga S 1032 ((8 : Int32) + p0).toNatClampNeg) - (1 : Int32))) 1032 (1 : Int32).toNatClampNeg)).toNatClampNeg p0) 1032 (1 : Int32).toNatClampNeg ((ga (sa (sa S 1032 ((8 : Int32) + p0).toNatClampNeg ((ga S 1032 ((8 : Int32) + p0).toNatClampNeg) - (1 : Int32))) 1032 ((4 : Int32) + (ga (sa S 1032 ((8 : Int32) + p0).toNatClampNeg ((ga S 1032 ((8 : Int32) + p0).toNatClampNeg) - (1 : Int32))) 1032 (1 : Int32).toNatClampNeg)).toNatClampNeg p0) 1032 (1 : Int32).toNatClampNeg) + (1 : Int32))))) ∧ ((ga (sa (sa (sa S 1032 ((8 : Int32) + p0).toNatClampNeg ((ga S 1032 ((8 : Int32) + p0).toNatClampNeg) - (1 : Int32))) 1032 ((4 : Int32) + (ga (sa S 1032 ((8 : Int32) + p0).toNatClampNeg ((ga S 1032 ((8 : Int32) + p0).toNatClampNeg) - (1 : Int32))) 1032 (1 : Int32).toNatClampNeg)).toNatClampNeg p0) 1032 (1 : Int32).toNatClampNeg ((ga (sa (sa S 1032 ((8 : Int32) + p0).toNatClampNeg ((ga S 1032 ((8 : Int32) + p0).toNatClampNeg) - (1 : Int32))) 1032 ((4 : Int32) + (ga (sa S 1032 ((8 : Int32) + p0).toNatClampNeg ((ga S 1032 ((8 : Int32) + p0).toNatClampNeg) - (1 : Int32))) 1032 (1 : Int32).toNatClampNeg)).toNatClampNeg p0) 1032 (1 : Int32).toNatClampNeg) + (1 : Int32))) 1032 (1 : Int32).toNatClampNeg) = (ga (sa (sa (sa S 1032 ((8 : Int32) + p0).toNatClampNeg ((ga S 1032 ((8 : Int32) + p0).toNatClampNeg) - (1 : Int32))) 1032 ((4 : Int32) + (ga (sa S 1032 ((8 : Int32) + p0).toNatClampNeg ((ga S 1032 ((8 : Int32) + p0).toNatClampNeg) - (1 : Int32))) 1032 (1 : Int32).toNatClampNeg)).toNatClampNeg p0) 1032 (1 : Int32).toNatClampNeg ((ga (sa (sa S 1032 ((8 : Int32) + p0).toNatClampNeg ((ga S 1032 ((8 : Int32) + p0).toNatClampNeg) - (1 : Int32))) 1032 ((4 : Int32) + (ga (sa S 1032 ((8 : Int32) + p0).toNatClampNeg ((ga S 1032 ((8 : Int32) + p0).toNatClampNeg) - (1 : Int32))) 1032 (1 : Int32).toNatClampNeg)).toNatClampNeg p0) 1032 (1 : Int32).toNatClampNeg) + (1 : Int32))) 1002 (2 : Int32).toNatClampNeg) → (aWM d 57 [.ref 1000] (sa (sa (sa S 1032 ((8 : Int32) + p0).toNatClampNeg ((ga S 1032 ((8 : Int32) + p0).toNatClampNeg) - (1 : Int32))) 1032 ((4 : Int32) + (ga (sa S 1032 ((8 : Int32) + p0).toNatClampNeg ((ga S 1032 ((8 : Int32) + p0).toNatClampNeg) - (1 : Int32))) 1032 (1 : Int32).toNatClampNeg)).toNatClampNeg p0) 1032 (1 : Int32).toNatClampNeg ((ga (sa (sa S 1032 ((8 : Int32) + p0).toNatClampNeg ((ga S 1032 ((8 : Int32) + p0).toNatClampNeg) - (1 : Int32))) 1032 ((4 : Int32) + (ga (sa S 1032 ((8 : Int32) + p0).toNatClampNeg ((ga S 1032 ((8 : Int32) + p0).toNatClampNeg) - (1 : Int32))) 1032 (1 : Int32).toNatClampNeg)).toNatClampNeg p0) 1032 (1 : Int32).toNatClampNeg) + (1 : Int32))) (fun v1 S2 => aV v1 (Q .null S2)))))))))))))) : aWM (d + 1) 58 [.ref 1000, .int p0] S Q := aW_in rfl (aP_at h)
set_option maxRecDepth 100000 in
/-- burns(I)V -/
theorem mM_burns {d : Nat} {Q : Value → aS → Prop} {p0 : Int32} {S : aS} (h : aBM d 59 Q 2 [some (.ref 1000), some (.int p0), some (.int (0 : Int32)), none] [] S) : aWM (d + 1) 59 [.ref 1000, .int p0] S Q := aW_in rfl (aP_at h)
set_option maxRecDepth 100000 in
theorem bM_burns_2 {d : Nat} {Q : Value → aS → Prop} {a1 : Int32} {a2 : Int32} {S : aS} (h : vp_in (2 : Int32) 8 ∧ ((((ga S 1002 (2 : Int32).toNatClampNeg) ≤ a2 → (aWM d 56 [.ref 1000, .int a1] S (fun v1 S2 => aV v1 (Q .null S2)))) ∧ (¬ (ga S 1002 (2 : Int32).toNatClampNeg) ≤ a2 → (vp_in (((20 : Int32) + ((4 : Int32) * a1)) + a2) 60 ∧ (vp_in ((8 : Int32) + (ga S 1032 (((20 : Int32) + ((4 : Int32) * a1)) + a2).toNatClampNeg)) 60 ∧ (vp_in ((8 : Int32) + (ga S 1032 (((20 : Int32) + ((4 : Int32) * a1)) + a2).toNatClampNeg)) 60 ∧ (aBM d 59 Q 2 [some (.ref 1000), some (.int a1), some (.int (a2 + (1 : Int32))), none] [] (sa S 1032 ((8 : Int32) + (ga S 1032 (((20 : Int32) + ((4 : Int32) * a1)) + a2).toNatClampNeg)).toNatClampNeg (if ((ga S 1032 ((8 : Int32) + (ga S 1032 (((20 : Int32) + ((4 : Int32) * a1)) + a2).toNatClampNeg)).toNatClampNeg) + (1 : Int32)) < (9 : Int32) then ((ga S 1032 ((8 : Int32) + (ga S 1032 (((20 : Int32) + ((4 : Int32) * a1)) + a2).toNatClampNeg)).toNatClampNeg) + (1 : Int32)) else (9 : Int32))))))))))) : aBM d 59 Q 2 [some (.ref 1000), some (.int a1), some (.int a2), none] [] S := aM_bl h
set_option maxRecDepth 100000 in
/-- canPass()Z -/
theorem mM_canPass {d : Nat} {Q : Value → aS → Prop}  {S : aS} (h : vp_in (1 : Int32) 60 ∧ (((¬ (ga S 1032 (1 : Int32).toNatClampNeg) = 0 → (((0 : Int32) = 0 ∨ (0 : Int32) = 1) ∧ Q (.int (0 : Int32)) S)) ∧ ((ga S 1032 (1 : Int32).toNatClampNeg) = 0 → (vp_in (0 : Int32) 8 ∧ ((((ga S 1002 (0 : Int32).toNatClampNeg) ≤ 0 → (((0 : Int32) = 0 ∨ (0 : Int32) = 1) ∧ Q (.int (0 : Int32)) S)) ∧ (¬ (ga S 1002 (0 : Int32).toNatClampNeg) ≤ 0 → (((1 : Int32) = 0 ∨ (1 : Int32) = 1) ∧ Q (.int (1 : Int32)) S))))))))) : aWM (d + 1) 60 [.ref 1000] S Q := aW_in rfl (aP_at h)
set_option maxRecDepth 100000 in
/-- write(I)I -/
theorem mM_write {d : Nat} {Q : Value → aS → Prop} {p0 : Int32} {S : aS} (h : aWM d 43 [.ref 1000, .int p0] (si S 1000 0 (0 : Int32)) (fun v1 S2 => aI v1 (fun x3 => ((x3 = 0 → (Q (.int (-1 : Int32)) S2)) ∧ (¬ x3 = 0 → (aWM d 55 [.ref 1000, .int p0] S2 (fun v4 S5 => aI v4 (fun x6 => ((¬ x6 = 0 → (aWM d 54 [.ref 1000] S5 (fun v7 S8 => aV v7 (aWM d 58 [.ref 1000, .int p0] S8 (fun v9 S10 => aV v9 (vp_in (1 : Int32) 60 ∧ (Q (.int (ga S10 1032 (1 : Int32).toNatClampNeg)) S10))))))) ∧ (x6 = 0 → (Q (.int (-1 : Int32)) S5))))))))))) : aWM (d + 1) 61 [.ref 1000, .int p0] S Q := aW_in rfl (aP_at h)
set_option maxRecDepth 100000 in
/-- pass()I -/
theorem mM_pass {d : Nat} {Q : Value → aS → Prop}  {S : aS} (h : aWM d 60 [.ref 1000] (si S 1000 0 (0 : Int32)) (fun v1 S2 => aI v1 (fun x3 => ((¬ x3 = 0 → (aWM d 54 [.ref 1000] S2 (fun v4 S5 => aV v4 (vp_in (0 : Int32) 60 ∧ (vp_in (0 : Int32) 8 ∧ (¬ (ga S5 1002 (0 : Int32).toNatClampNeg) = 0 ∧ (vp_in (0 : Int32) 60 ∧ (vp_in (0 : Int32) 60 ∧ (Q (.int (ga (sa S5 1032 (0 : Int32).toNatClampNeg (((ga S5 1032 (0 : Int32).toNatClampNeg) + (1 : Int32)) - ((ga S5 1032 (0 : Int32).toNatClampNeg) + (1 : Int32)) / (ga S5 1002 (0 : Int32).toNatClampNeg) * (ga S5 1002 (0 : Int32).toNatClampNeg))) 1032 (0 : Int32).toNatClampNeg)) (sa S5 1032 (0 : Int32).toNatClampNeg (((ga S5 1032 (0 : Int32).toNatClampNeg) + (1 : Int32)) - ((ga S5 1032 (0 : Int32).toNatClampNeg) + (1 : Int32)) / (ga S5 1002 (0 : Int32).toNatClampNeg) * (ga S5 1002 (0 : Int32).toNatClampNeg)))))))))))) ∧ (x3 = 0 → (Q (.int (-1 : Int32)) S2)))))) : aWM (d + 1) 62 [.ref 1000] S Q := aW_in rfl (aP_at h)
set_option maxRecDepth 100000 in
/-- burn(I)I -/
theorem mM_burn {d : Nat} {Q : Value → aS → Prop} {p0 : Int32} {S : aS} (h : ((p0 < 0 → (Q (.int (-1 : Int32)) (si S 1000 0 (0 : Int32)))) ∧ (¬ p0 < 0 → (vp_in (3 : Int32) 60 ∧ (((p0 < (ga (si S 1000 0 (0 : Int32)) 1032 (3 : Int32).toNatClampNeg) → (aWM d 54 [.ref 1000] (si S 1000 0 (0 : Int32)) (fun v1 S2 => aV v1 (aWM d 59 [.ref 1000, .int p0] S2 (fun v3 S4 => aV v3 (vp_in (3 : Int32) 60 ∧ (Q (.int (ga S4 1032 (3 : Int32).toNatClampNeg)) S4))))))) ∧ (¬ p0 < (ga (si S 1000 0 (0 : Int32)) 1032 (3 : Int32).toNatClampNeg) → (Q (.int (-1 : Int32)) (si S 1000 0 (0 : Int32)))))))))) : aWM (d + 1) 63 [.ref 1000, .int p0] S Q := aW_in rfl (aP_at h)
set_option maxRecDepth 100000 in
/-- undo()Z -/
theorem mM_undo {d : Nat} {Q : Value → aS → Prop}  {S : aS} (h : ((¬ (gi (si S 1000 0 (0 : Int32)) 1000 50) = 0 → (aWM d 35 [.ref 1035, .int ((60 : Int32) * (gi (si (si S 1000 0 (0 : Int32)) 1000 50 ((gi (si S 1000 0 (0 : Int32)) 1000 50) - (1 : Int32))) 1000 50)), .ref 1032, .int (0 : Int32)] (si (si S 1000 0 (0 : Int32)) 1000 50 ((gi (si S 1000 0 (0 : Int32)) 1000 50) - (1 : Int32))) (fun v1 S2 => aV v1 (((1 : Int32) = 0 ∨ (1 : Int32) = 1) ∧ Q (.int (1 : Int32)) S2)))) ∧ ((gi (si S 1000 0 (0 : Int32)) 1000 50) = 0 → (((0 : Int32) = 0 ∨ (0 : Int32) = 1) ∧ Q (.int (0 : Int32)) (si S 1000 0 (0 : Int32)))))) : aWM (d + 1) 64 [.ref 1000] S Q := aW_in rfl (aP_at h)
set_option maxRecDepth 100000 in
/-- wordsOf(I)I -/
theorem mM_wordsOf {d : Nat} {Q : Value → aS → Prop} {p0 : Int32} {S : aS} (h : aBM d 65 Q 4 [some (.ref 1000), some (.int p0), some (.int (0 : Int32)), some (.int (0 : Int32))] [] S) : aWM (d + 1) 65 [.ref 1000, .int p0] S Q := aW_in rfl (aP_at h)
set_option maxRecDepth 100000 in
theorem bM_wordsOf_4 {d : Nat} {Q : Value → aS → Prop} {a1 : Int32} {a2 : Int32} {a3 : Int32} {S : aS} (h : vp_in (2 : Int32) 8 ∧ ((((ga S 1002 (2 : Int32).toNatClampNeg) ≤ a3 → (Q (.int a2) S)) ∧ (¬ (ga S 1002 (2 : Int32).toNatClampNeg) ≤ a3 → (vp_in (((20 : Int32) + ((4 : Int32) * a1)) + a3) 60 ∧ (aBM d 65 Q 4 [some (.ref 1000), some (.int a1), some (.int (a2 ||| ((1 : Int32) <<< ((ga S 1032 (((20 : Int32) + ((4 : Int32) * a1)) + a3).toNatClampNeg) &&& 31)))), some (.int (a3 + (1 : Int32)))] [] S)))))) : aBM d 65 Q 4 [some (.ref 1000), some (.int a1), some (.int a2), some (.int a3)] [] S := aM_bl h
set_option maxRecDepth 100000 in
/-- doClash(II)Z -/
theorem mM_doClash {d : Nat} {Q : Value → aS → Prop} {p0 : Int32} {p1 : Int32} {S : aS} (h : aWM d 65 [.ref 1000, .int p0] S (fun v1 S2 => aI v1 (fun x3 => aWM d 65 [.ref 1000, .int p1] S2 (fun v4 S5 => aI v4 (fun x6 => aBM d 66 Q 10 [some (.ref 1000), none, none, some (.int x3), some (.int x6), some (.int (0 : Int32))] [] S5))))) : aWM (d + 1) 66 [.ref 1000, .int p0, .int p1] S Q := aW_in rfl (aP_at h)
set_option maxRecDepth 100000 in
theorem bM_doClash_10 {d : Nat} {Q : Value → aS → Prop} {a3 : Int32} {a4 : Int32} {a5 : Int32} {S : aS} (h : vp_in (1 : Int32) 8 ∧ ((((ga S 1002 (1 : Int32).toNatClampNeg) ≤ a5 → (((0 : Int32) = 0 ∨ (0 : Int32) = 1) ∧ Q (.int (0 : Int32)) S)) ∧ (¬ (ga S 1002 (1 : Int32).toNatClampNeg) ≤ a5 → ((¬ ((a3 >>> (a5 &&& 31)) &&& (1 : Int32)) = (1 : Int32) → (aBM d 66 Q 10 [some (.ref 1000), none, none, some (.int a3), some (.int a4), some (.int (a5 + (1 : Int32)))] [] S)) ∧ (((a3 >>> (a5 &&& 31)) &&& (1 : Int32)) = (1 : Int32) → (vp_in a5 24 ∧ (((((ga S 1011 a5.toNatClampNeg) &&& a4) = 0 → (aBM d 66 Q 10 [some (.ref 1000), none, none, some (.int a3), some (.int a4), some (.int (a5 + (1 : Int32)))] [] S)) ∧ (¬ ((ga S 1011 a5.toNatClampNeg) &&& a4) = 0 → (((1 : Int32) = 0 ∨ (1 : Int32) = 1) ∧ Q (.int (1 : Int32)) S))))))))))) : aBM d 66 Q 10 [some (.ref 1000), none, none, some (.int a3), some (.int a4), some (.int a5)] [] S := aM_bl h
set_option maxRecDepth 100000 in
/-- clashesOf(I)I -/
theorem mM_clashesOf {d : Nat} {Q : Value → aS → Prop} {p0 : Int32} {S : aS} (h : aBM d 67 Q 4 [some (.ref 1000), some (.int p0), some (.int (0 : Int32)), some (.int (0 : Int32)), none] [] S) : aWM (d + 1) 67 [.ref 1000, .int p0] S Q := aW_in rfl (aP_at h)
set_option maxRecDepth 100000 in
theorem bM_clashesOf_4 {d : Nat} {Q : Value → aS → Prop} {a1 : Int32} {a2 : Int32} {a3 : Int32} {S : aS} (h : vp_in (3 : Int32) 60 ∧ ((((ga S 1032 (3 : Int32).toNatClampNeg) ≤ a3 → (Q (.int a2) S)) ∧ (¬ (ga S 1032 (3 : Int32).toNatClampNeg) ≤ a3 → (aBM d 67 Q 12 [some (.ref 1000), some (.int a1), some (.int a2), some (.int a3), some (.int (0 : Int32))] [] S))))) : aBM d 67 Q 4 [some (.ref 1000), some (.int a1), some (.int a2), some (.int a3), none] [] S := aM_bl h
set_option maxRecDepth 100000 in
theorem bM_clashesOf_12 {d : Nat} {Q : Value → aS → Prop} {a1 : Int32} {a2 : Int32} {a3 : Int32} {a4 : Int32} {S : aS} (h : ((a3 < a4 → (aBM d 67 Q 4 [some (.ref 1000), some (.int a1), some (.int a2), some (.int (a3 + (1 : Int32))), none] [] S)) ∧ (¬ a3 < a4 → ((¬ ((a1 >>> (a3 &&& 31)) &&& (1 : Int32)) = (1 : Int32) → (aBM d 67 Q 12 [some (.ref 1000), some (.int a1), some (.int (a2 + (0 : Int32))), some (.int a3), some (.int (a4 + (1 : Int32)))] [] S)) ∧ (((a1 >>> (a3 &&& 31)) &&& (1 : Int32)) = (1 : Int32) → ((¬ ((a1 >>> (a4 &&& 31)) &&& (1 : Int32)) = (1 : Int32) → (aBM d 67 Q 12 [some (.ref 1000), some (.int a1), some (.int (a2 + (0 : Int32))), some (.int a3), some (.int (a4 + (1 : Int32)))] [] S)) ∧ (((a1 >>> (a4 &&& 31)) &&& (1 : Int32)) = (1 : Int32) → (aWM d 66 [.ref 1000, .int a3, .int a4] S (fun v1 S2 => aI v1 (fun x3 => ((x3 = 0 → (aBM d 67 Q 12 [some (.ref 1000), some (.int a1), some (.int (a2 + (0 : Int32))), some (.int a3), some (.int (a4 + (1 : Int32)))] [] S2)) ∧ (¬ x3 = 0 → (aBM d 67 Q 12 [some (.ref 1000), some (.int a1), some (.int (a2 + (1 : Int32))), some (.int a3), some (.int (a4 + (1 : Int32)))] [] S2))))))))))))) : aBM d 67 Q 12 [some (.ref 1000), some (.int a1), some (.int a2), some (.int a3), some (.int a4)] [] S := aM_bl h
set_option maxRecDepth 100000 in
/-- allWholes()I -/
theorem mM_allWholes {d : Nat} {Q : Value → aS → Prop}  {S : aS} (h : vp_in (3 : Int32) 60 ∧ (Q (.int (((1 : Int32) <<< ((ga S 1032 (3 : Int32).toNatClampNeg) &&& 31)) - (1 : Int32))) S)) : aWM (d + 1) 68 [.ref 1000] S Q := aW_in rfl (aP_at h)
set_option maxRecDepth 100000 in
/-- goes(I)Z -/
theorem mM_goes {d : Nat} {Q : Value → aS → Prop} {p0 : Int32} {S : aS} (h : vp_in p0 240 ∧ (vp_in p0 240 ∧ (((¬ (ga S 1028 p0.toNatClampNeg) = 0 → (vp_in p0 240 ∧ (((¬ (ga S 1028 p0.toNatClampNeg) = (1 : Int32) → (aWM d 60 [.ref 1000] S (fun v1 S2 => aI v1 (fun x3 => ((¬ x3 = 0 → (vp_in (0 : Int32) 60 ∧ (vp_in (0 : Int32) 8 ∧ (¬ (ga S2 1002 (0 : Int32).toNatClampNeg) = 0 ∧ (vp_in (0 : Int32) 60 ∧ (((1 : Int32) = 0 ∨ (1 : Int32) = 1) ∧ Q (.int (1 : Int32)) (sa S2 1032 (0 : Int32).toNatClampNeg (((ga S2 1032 (0 : Int32).toNatClampNeg) + (1 : Int32)) - ((ga S2 1032 (0 : Int32).toNatClampNeg) + (1 : Int32)) / (ga S2 1002 (0 : Int32).toNatClampNeg) * (ga S2 1002 (0 : Int32).toNatClampNeg))))))))) ∧ (x3 = 0 → (((0 : Int32) = 0 ∨ (0 : Int32) = 1) ∧ Q (.int (0 : Int32)) S2))))))) ∧ ((ga S 1028 p0.toNatClampNeg) = (1 : Int32) → (vp_in (3 : Int32) 60 ∧ ((((ga S 1029 p0.toNatClampNeg) < (ga S 1032 (3 : Int32).toNatClampNeg) → (aWM d 59 [.ref 1000, .int (ga S 1029 p0.toNatClampNeg)] S (fun v4 S5 => aV v4 (((1 : Int32) = 0 ∨ (1 : Int32) = 1) ∧ Q (.int (1 : Int32)) S5)))) ∧ (¬ (ga S 1029 p0.toNatClampNeg) < (ga S 1032 (3 : Int32).toNatClampNeg) → (((0 : Int32) = 0 ∨ (0 : Int32) = 1) ∧ Q (.int (0 : Int32)) S)))))))))) ∧ ((ga S 1028 p0.toNatClampNeg) = 0 → (aWM d 55 [.ref 1000, .int (ga S 1029 p0.toNatClampNeg)] S (fun v6 S7 => aI v6 (fun x8 => ((¬ x8 = 0 → (aWM d 58 [.ref 1000, .int (ga S 1029 p0.toNatClampNeg)] S7 (fun v9 S10 => aV v9 (((1 : Int32) = 0 ∨ (1 : Int32) = 1) ∧ Q (.int (1 : Int32)) S10)))) ∧ (x8 = 0 → (((0 : Int32) = 0 ∨ (0 : Int32) = 1) ∧ Q (.int (0 : Int32)) S7))))))))))) : aWM (d + 1) 69 [.ref 1000, .int p0] S Q := aW_in rfl (aP_at h)
set_option maxRecDepth 100000 in
/-- doesLastClash()Z -/
theorem mM_doesLastClash {d : Nat} {Q : Value → aS → Prop}  {S : aS} (h : aBM d 70 Q 2 [some (.ref 1000), some (.int (0 : Int32))] [] S) : aWM (d + 1) 70 [.ref 1000] S Q := aW_in rfl (aP_at h)
set_option maxRecDepth 100000 in
theorem bM_doesLastClash_2 {d : Nat} {Q : Value → aS → Prop} {a1 : Int32} {S : aS} (h : vp_in (3 : Int32) 60 ∧ ((((ga S 1032 (3 : Int32).toNatClampNeg) ≤ a1 → (((0 : Int32) = 0 ∨ (0 : Int32) = 1) ∧ Q (.int (0 : Int32)) S)) ∧ (¬ (ga S 1032 (3 : Int32).toNatClampNeg) ≤ a1 → (vp_in (3 : Int32) 60 ∧ (aWM d 66 [.ref 1000, .int a1, .int ((ga S 1032 (3 : Int32).toNatClampNeg) - (1 : Int32))] S (fun v1 S2 => aI v1 (fun x3 => ((x3 = 0 → (aBM d 70 Q 2 [some (.ref 1000), some (.int (a1 + (1 : Int32)))] [] S2)) ∧ (¬ x3 = 0 → (((1 : Int32) = 0 ∨ (1 : Int32) = 1) ∧ Q (.int (1 : Int32)) S2))))))))))) : aBM d 70 Q 2 [some (.ref 1000), some (.int a1)] [] S := aM_bl h
set_option maxRecDepth 100000 in
/-- judged(I)I -/
theorem mM_judged {d : Nat} {Q : Value → aS → Prop} {p0 : Int32} {S : aS} (h : aWM d 1 [.int p0, .int (0 : Int32), .int (2 : Int32)] (si S 1000 0 (0 : Int32)) (fun v1 S2 => aI v1 (fun x3 => ((¬ x3 = 0 → (aWM d 35 [.ref 1032, .int (0 : Int32), .ref 1033, .int (0 : Int32)] S2 (fun v4 S5 => aV v4 (aWM d 39 [.ref 1000] S5 (fun v6 S7 => aV v6 (aBM d 71 Q 25 [some (.ref 1000), some (.int p0), some (.int (-1 : Int32)), some (.int (-1 : Int32)), some (.int (0 : Int32)), none] [] S7)))))) ∧ (x3 = 0 → (Q (.int (-2 : Int32)) S2)))))) : aWM (d + 1) 71 [.ref 1000, .int p0] S Q := aW_in rfl (aP_at h)
set_option maxRecDepth 100000 in
theorem bM_judged_25 {d : Nat} {Q : Value → aS → Prop} {a1 : Int32} {a2 : Int32} {a3 : Int32} {a4 : Int32} {S : aS} (h : vp_in (0 : Int32) 6 ∧ ((((ga S 1027 (0 : Int32).toNatClampNeg) ≤ a4 → (vp_in (2 : Int32) 60 ∧ (aWM d 35 [.ref 1033, .int (0 : Int32), .ref 1032, .int (0 : Int32)] S (fun v1 S2 => aV v1 (((¬ a1 = 0 → ((¬ a1 = (1 : Int32) → (Q (.int (ga S 1032 (2 : Int32).toNatClampNeg)) S2)) ∧ (a1 = (1 : Int32) → (Q (.int a3) S2)))) ∧ (a1 = 0 → (Q (.int a2) S2)))))))) ∧ (¬ (ga S 1027 (0 : Int32).toNatClampNeg) ≤ a4 → (aWM d 69 [.ref 1000, .int a4] S (fun v3 S4 => aI v3 (fun x5 => ((¬ x5 = 0 → (aBM d 71 Q 41 [some (.ref 1000), some (.int a1), some (.int a2), some (.int a3), some (.int a4), some (.int x5)] [] S4)) ∧ (x5 = 0 → ((0 ≤ a2 → (aBM d 71 Q 41 [some (.ref 1000), some (.int a1), some (.int a2), some (.int a3), some (.int a4), some (.int x5)] [] S4)) ∧ (¬ 0 ≤ a2 → (aBM d 71 Q 41 [some (.ref 1000), some (.int a1), some (.int a4), some (.int a3), some (.int a4), some (.int x5)] [] S4)))))))))))) : aBM d 71 Q 25 [some (.ref 1000), some (.int a1), some (.int a2), some (.int a3), some (.int a4), none] [] S := aM_bl h
set_option maxRecDepth 100000 in
theorem bM_judged_41 {d : Nat} {Q : Value → aS → Prop} {a1 : Int32} {a2 : Int32} {a3 : Int32} {a4 : Int32} {a5 : Int32} {S : aS} (h : ((a5 = 0 → (aBM d 71 Q 25 [some (.ref 1000), some (.int a1), some (.int a2), some (.int a3), some (.int (a4 + (1 : Int32))), none] [] S)) ∧ (¬ a5 = 0 → (vp_in a4 240 ∧ (((¬ (ga S 1028 a4.toNatClampNeg) = 0 → (aBM d 71 Q 25 [some (.ref 1000), some (.int a1), some (.int a2), some (.int a3), some (.int (a4 + (1 : Int32))), none] [] S)) ∧ ((ga S 1028 a4.toNatClampNeg) = 0 → (vp_in (1 : Int32) 60 ∧ (((¬ (ga S 1032 (1 : Int32).toNatClampNeg) = 0 → (aBM d 71 Q 25 [some (.ref 1000), some (.int a1), some (.int a2), some (.int a3), some (.int (a4 + (1 : Int32))), none] [] S)) ∧ ((ga S 1032 (1 : Int32).toNatClampNeg) = 0 → ((0 ≤ a3 → (aBM d 71 Q 25 [some (.ref 1000), some (.int a1), some (.int a2), some (.int a3), some (.int (a4 + (1 : Int32))), none] [] S)) ∧ (¬ 0 ≤ a3 → (aWM d 70 [.ref 1000] S (fun v1 S2 => aI v1 (fun x3 => ((x3 = 0 → (aBM d 71 Q 25 [some (.ref 1000), some (.int a1), some (.int a2), some (.int a3), some (.int (a4 + (1 : Int32))), none] [] S2)) ∧ (¬ x3 = 0 → (aBM d 71 Q 25 [some (.ref 1000), some (.int a1), some (.int a2), some (.int a4), some (.int (a4 + (1 : Int32))), none] [] S2))))))))))))))))))) : aBM d 71 Q 41 [some (.ref 1000), some (.int a1), some (.int a2), some (.int a3), some (.int a4), some (.int a5)] [] S := aM_bl h
set_option maxRecDepth 100000 in
/-- goesOn(III)Z -/
theorem mM_goesOn {d : Nat} {Q : Value → aS → Prop} {p0 : Int32} {p1 : Int32} {p2 : Int32} {S : aS} (h : vp_in (0 : Int32) 60 ∧ (aWM d 44 [.ref 1000, .int (ga S 1032 (0 : Int32).toNatClampNeg), .int p0] S (fun v1 S2 => aI v1 (fun x3 => aWM d 45 [.ref 1000, .int p1, .int x3, .int p2] S2 (fun v4 S5 => aI v4 (fun x6 => aWM d 48 [.ref 1000, .int p0, .int x3, .int p2] (sl S5 1000 52 ((gl S2 1000 52) * x6.toInt64)) (fun v7 S8 => aI v7 (fun x9 => (((lg_cmp (gl (sl S8 1000 53 ((gl (sl S5 1000 52 ((gl S2 1000 52) * x6.toInt64)) 1000 53) * ((if (1 : Int32) < x9 then x9 else (1 : Int32)).toInt64))) 1000 52) (0 : Int64)) ≤ 0 → (((0 : Int32) = 0 ∨ (0 : Int32) = 1) ∧ Q (.int (0 : Int32)) (sl S8 1000 53 ((gl (sl S5 1000 52 ((gl S2 1000 52) * x6.toInt64)) 1000 53) * ((if (1 : Int32) < x9 then x9 else (1 : Int32)).toInt64))))) ∧ (¬ (lg_cmp (gl (sl S8 1000 53 ((gl (sl S5 1000 52 ((gl S2 1000 52) * x6.toInt64)) 1000 53) * ((if (1 : Int32) < x9 then x9 else (1 : Int32)).toInt64))) 1000 52) (0 : Int64)) ≤ 0 → (((1 : Int32) = 0 ∨ (1 : Int32) = 1) ∧ Q (.int (1 : Int32)) (sl S8 1000 53 ((gl (sl S5 1000 52 ((gl S2 1000 52) * x6.toInt64)) 1000 53) * ((if (1 : Int32) < x9 then x9 else (1 : Int32)).toInt64)))))))))))))) : aWM (d + 1) 72 [.ref 1000, .int p0, .int p1, .int p2] S Q := aW_in rfl (aP_at h)
set_option maxRecDepth 100000 in
/-- wordIn(II)I -/
theorem mM_wordIn {d : Nat} {Q : Value → aS → Prop} {p0 : Int32} {p1 : Int32} {S : aS} (h : aBM d 73 Q 4 [some (.ref 1000), some (.int p0), some (.int p1), some (.int (-1 : Int32)), some (.int (0 : Int32))] [] S) : aWM (d + 1) 73 [.ref 1000, .int p0, .int p1] S Q := aW_in rfl (aP_at h)
set_option maxRecDepth 100000 in
theorem bM_wordIn_4 {d : Nat} {Q : Value → aS → Prop} {a1 : Int32} {a2 : Int32} {a3 : Int32} {a4 : Int32} {S : aS} (h : vp_in (1 : Int32) 8 ∧ ((((ga S 1002 (1 : Int32).toNatClampNeg) ≤ a4 → (Q (.int a3) S)) ∧ (¬ (ga S 1002 (1 : Int32).toNatClampNeg) ≤ a4 → ((((a1 >>> (a4 &&& 31)) &&& (1 : Int32)) = 0 → (aBM d 73 Q 4 [some (.ref 1000), some (.int a1), some (.int a2), some (.int a3), some (.int (a4 + (1 : Int32)))] [] S)) ∧ (¬ ((a1 >>> (a4 &&& 31)) &&& (1 : Int32)) = 0 → (vp_in a4 24 ∧ ((((ga S 1006 a4.toNatClampNeg) = a2 → ((a3 < 0 → (aBM d 73 Q 4 [some (.ref 1000), some (.int a1), some (.int a2), some (.int a4), some (.int (a4 + (1 : Int32)))] [] S)) ∧ (¬ a3 < 0 → (Q (.int (-1 : Int32)) S)))) ∧ (¬ (ga S 1006 a4.toNatClampNeg) = a2 → (aBM d 73 Q 4 [some (.ref 1000), some (.int a1), some (.int a2), some (.int a3), some (.int (a4 + (1 : Int32)))] [] S))))))))))) : aBM d 73 Q 4 [some (.ref 1000), some (.int a1), some (.int a2), some (.int a3), some (.int a4)] [] S := aM_bl h
set_option maxRecDepth 100000 in
/-- comes(I)I -/
theorem mM_comes {d : Nat} {Q : Value → aS → Prop} {p0 : Int32} {S : aS} (h : ((p0 < 0 → (Q (.int (-1 : Int32)) (si S 1000 0 (0 : Int32)))) ∧ (¬ p0 < 0 → (vp_in (1 : Int32) 8 ∧ (((((1 : Int32) <<< ((ga (si S 1000 0 (0 : Int32)) 1002 (1 : Int32).toNatClampNeg) &&& 31)) ≤ p0 → (Q (.int (-1 : Int32)) (si S 1000 0 (0 : Int32)))) ∧ (¬ ((1 : Int32) <<< ((ga (si S 1000 0 (0 : Int32)) 1002 (1 : Int32).toNatClampNeg) &&& 31)) ≤ p0 → (aWM d 3 [.int p0] (si S 1000 0 (0 : Int32)) (fun v1 S2 => aI v1 (fun x3 => vp_in (2 : Int32) 8 ∧ (vp_in (1 : Int32) 60 ∧ (((x3 = ((ga S2 1002 (2 : Int32).toNatClampNeg) - (ga S2 1032 (1 : Int32).toNatClampNeg)) → (vp_in (1 : Int32) 60 ∧ (aWM d 46 [.ref 1000, .int (ga (sl (sl S2 1000 52 (1 : Int64)) 1000 53 (1 : Int64)) 1032 (1 : Int32).toNatClampNeg)] (sl (sl S2 1000 52 (1 : Int64)) 1000 53 (1 : Int64)) (fun v4 S5 => aI v4 (fun x6 => vp_in (1 : Int32) 60 ∧ (aBM d 74 Q 45 [some (.ref 1000), some (.int p0), some (.int x6), some (.int (ga S5 1032 (1 : Int32).toNatClampNeg)), none] [] S5)))))) ∧ (¬ x3 = ((ga S2 1002 (2 : Int32).toNatClampNeg) - (ga S2 1032 (1 : Int32).toNatClampNeg)) → (Q (.int (-1 : Int32)) S2))))))))))))))) : aWM (d + 1) 74 [.ref 1000, .int p0] S Q := aW_in rfl (aP_at h)
set_option maxRecDepth 100000 in
theorem bM_comes_45 {d : Nat} {Q : Value → aS → Prop} {a1 : Int32} {a2 : Int32} {a3 : Int32} {S : aS} (h : vp_in (2 : Int32) 8 ∧ ((((ga S 1002 (2 : Int32).toNatClampNeg) ≤ a3 → (vp_in (1 : Int32) 60 ∧ (aBM d 74 Q 65 [some (.ref 1000), some (.int a1), some (.int a2), some (.int (ga S 1032 (1 : Int32).toNatClampNeg)), none] [] S))) ∧ (¬ (ga S 1002 (2 : Int32).toNatClampNeg) ≤ a3 → (aWM d 73 [.ref 1000, .int a1, .int a3] S (fun v1 S2 => aI v1 (fun x3 => ((0 ≤ x3 → (aBM d 74 Q 45 [some (.ref 1000), some (.int a1), some (.int a2), some (.int (a3 + (1 : Int32))), none] [] S2)) ∧ (¬ 0 ≤ x3 → (Q (.int (-1 : Int32)) S2)))))))))) : aBM d 74 Q 45 [some (.ref 1000), some (.int a1), some (.int a2), some (.int a3), none] [] S := aM_bl h
set_option maxRecDepth 100000 in
theorem bM_comes_65 {d : Nat} {Q : Value → aS → Prop} {a1 : Int32} {a2 : Int32} {a3 : Int32} {S : aS} (h : vp_in (2 : Int32) 8 ∧ ((((ga S 1002 (2 : Int32).toNatClampNeg) ≤ a3 → (¬ (gl S 1000 53) = 0 ∧ (Q (.int ((((gl S 1000 52) * (1000000 : Int64)) / (gl S 1000 53)).toInt32)) S))) ∧ (¬ (ga S 1002 (2 : Int32).toNatClampNeg) ≤ a3 → (aWM d 73 [.ref 1000, .int a1, .int a3] S (fun v1 S2 => aI v1 (fun x3 => aWM d 72 [.ref 1000, .int a3, .int x3, .int a2] S2 (fun v4 S5 => aI v4 (fun x6 => ((¬ x6 = 0 → (vp_in x3 24 ∧ (aBM d 74 Q 65 [some (.ref 1000), some (.int a1), some (.int (ga S5 1008 x3.toNatClampNeg)), some (.int (a3 + (1 : Int32))), none] [] S5))) ∧ (x6 = 0 → (Q (.int (0 : Int32)) S5)))))))))))) : aBM d 74 Q 65 [some (.ref 1000), some (.int a1), some (.int a2), some (.int a3), none] [] S := aM_bl h
set_option maxRecDepth 100000 in
/-- endsRow(II)V -/
theorem mM_endsRow {d : Nat} {Q : Value → aS → Prop} {p0 : Int32} {p1 : Int32} {S : aS} (h : (((lg_cmp ((gl S 1000 52) * (gl S 1000 57)) ((gl S 1000 56) * (gl S 1000 53))) ≤ 0 → (aBM d 75 Q 35 [some (.ref 1000), some (.int p0), some (.int p1), none] [] S)) ∧ (¬ (lg_cmp ((gl S 1000 52) * (gl S 1000 57)) ((gl S 1000 56) * (gl S 1000 53))) ≤ 0 → (aBM d 75 Q 22 [some (.ref 1000), some (.int p0), some (.int p1), some (.int (0 : Int32))] [] (sl (sl S 1000 56 (gl S 1000 52)) 1000 57 (gl (sl S 1000 56 (gl S 1000 52)) 1000 53)))))) : aWM (d + 1) 75 [.ref 1000, .int p0, .int p1] S Q := aW_in rfl (aP_at h)
set_option maxRecDepth 100000 in
theorem bM_endsRow_22 {d : Nat} {Q : Value → aS → Prop} {a1 : Int32} {a2 : Int32} {a3 : Int32} {S : aS} (h : (((4 : Int32) ≤ a3 → (aBM d 75 Q 35 [some (.ref 1000), some (.int a1), some (.int a2), none] [] S)) ∧ (¬ (4 : Int32) ≤ a3 → (vp_in a3 4 ∧ (vp_in a3 4 ∧ (aBM d 75 Q 22 [some (.ref 1000), some (.int a1), some (.int a2), some (.int (a3 + (1 : Int32)))] [] (sa S 1038 a3.toNatClampNeg (ga S 1037 a3.toNatClampNeg)))))))) : aBM d 75 Q 22 [some (.ref 1000), some (.int a1), some (.int a2), some (.int a3)] [] S := aM_bl h
set_option maxRecDepth 100000 in
theorem bM_endsRow_35 {d : Nat} {Q : Value → aS → Prop} {a1 : Int32} {a2 : Int32} {S : aS} (h : aWM d 49 [.ref 1000, .int a1, .int a2] S (fun v1 S2 => aI v1 (fun x3 => (((gi S2 1000 58) < 0 → (aBM d 75 Q 50 [some (.ref 1000), none, none, some (.int x3)] [] (si S2 1000 58 x3))) ∧ (¬ (gi S2 1000 58) < 0 → (((gi S2 1000 58) ≤ x3 → (aBM d 75 Q 50 [some (.ref 1000), none, none, some (.int x3)] [] S2)) ∧ (¬ (gi S2 1000 58) ≤ x3 → (aBM d 75 Q 50 [some (.ref 1000), none, none, some (.int x3)] [] (si S2 1000 58 x3))))))))) : aBM d 75 Q 35 [some (.ref 1000), some (.int a1), some (.int a2), none] [] S := aM_bl h
set_option maxRecDepth 100000 in
theorem bM_endsRow_50 {d : Nat} {Q : Value → aS → Prop} {a3 : Int32} {S : aS} (h : ¬ (gl S 1000 53) = 0 ∧ (Q .null (sl S 1000 59 ((gl S 1000 59) + (a3.toInt64 * (((gl S 1000 52) * (1000000 : Int64)) / (gl S 1000 53))))))) : aBM d 75 Q 50 [some (.ref 1000), none, none, some (.int a3)] [] S := aM_bl h
set_option maxRecDepth 100000 in
/-- rows(IIII)V -/
theorem mM_rows {d : Nat} {Q : Value → aS → Prop} {p0 : Int32} {p1 : Int32} {p2 : Int32} {p3 : Int32} {S : aS} (h : vp_in (2 : Int32) 8 ∧ (((¬ p0 = (ga S 1002 (2 : Int32).toNatClampNeg) → (aBM d 76 Q 19 [some (.ref 1000), some (.int p0), some (.int p1), some (.int p2), some (.int p3), some (.long (gl S 1000 52)), none, some (.long (gl S 1000 53)), none, some (.int (0 : Int32))] [] S)) ∧ (p0 = (ga S 1002 (2 : Int32).toNatClampNeg) → (aWM d 75 [.ref 1000, .int p2, .int p3] S (fun v1 S2 => aV v1 (Q .null S2))))))) : aWM (d + 1) 76 [.ref 1000, .int p0, .int p1, .int p2, .int p3] S Q := aW_in rfl (aP_at h)
set_option maxRecDepth 100000 in
theorem bM_rows_19 {d : Nat} {Q : Value → aS → Prop} {a1 : Int32} {a2 : Int32} {a3 : Int32} {a4 : Int32} {a5 : Int64} {a7 : Int64} {a9 : Int32} {S : aS} (h : vp_in (1 : Int32) 8 ∧ ((((ga S 1002 (1 : Int32).toNatClampNeg) ≤ a9 → (Q .null S)) ∧ (¬ (ga S 1002 (1 : Int32).toNatClampNeg) ≤ a9 → (vp_in a9 24 ∧ ((((ga S 1006 a9.toNatClampNeg) = a1 → (vp_in a1 4 ∧ (aWM d 72 [.ref 1000, .int a1, .int a9, .int a2] (sa S 1037 a1.toNatClampNeg a9) (fun v1 S2 => aI v1 (fun x3 => ((x3 = 0 → (aBM d 76 Q 19 [some (.ref 1000), some (.int a1), some (.int a2), some (.int a3), some (.int a4), some (.long a5), none, some (.long a7), none, some (.int (a9 + (1 : Int32)))] [] (sl (sl S2 1000 52 a5) 1000 53 a7))) ∧ (¬ x3 = 0 → (vp_in a9 24 ∧ (vp_in a9 24 ∧ (vp_in a9 24 ∧ (aWM d 76 [.ref 1000, .int (a1 + (1 : Int32)), .int (ga S2 1008 a9.toNatClampNeg), .int (a3 + (ga S2 1008 a9.toNatClampNeg)), .int (if a4 < (ga S2 1008 a9.toNatClampNeg) then (ga S2 1008 a9.toNatClampNeg) else a4)] S2 (fun v4 S5 => aV v4 (aBM d 76 Q 19 [some (.ref 1000), some (.int a1), some (.int a2), some (.int a3), some (.int a4), some (.long a5), none, some (.long a7), none, some (.int (a9 + (1 : Int32)))] [] (sl (sl S5 1000 52 a5) 1000 53 a7)))))))))))))) ∧ (¬ (ga S 1006 a9.toNatClampNeg) = a1 → (aBM d 76 Q 19 [some (.ref 1000), some (.int a1), some (.int a2), some (.int a3), some (.int a4), some (.long a5), none, some (.long a7), none, some (.int (a9 + (1 : Int32)))] [] S))))))))) : aBM d 76 Q 19 [some (.ref 1000), some (.int a1), some (.int a2), some (.int a3), some (.int a4), some (.long a5), none, some (.long a7), none, some (.int a9)] [] S := aM_bl h
set_option maxRecDepth 100000 in
/-- laysRows()V -/
theorem mM_laysRows {d : Nat} {Q : Value → aS → Prop}  {S : aS} (h : aBM d 77 Q 24 [some (.ref 1000), some (.int (0 : Int32)), some (.int (0 : Int32)), some (.int (0 : Int32))] [] (sl (sl (sl (si (sl (sl S 1000 56 (0 : Int64)) 1000 57 (1 : Int64)) 1000 58 (-1 : Int32)) 1000 59 (0 : Int64)) 1000 52 (1 : Int64)) 1000 53 (1 : Int64))) : aWM (d + 1) 77 [.ref 1000] S Q := aW_in rfl (aP_at h)
set_option maxRecDepth 100000 in
theorem bM_laysRows_24 {d : Nat} {Q : Value → aS → Prop} {a1 : Int32} {a2 : Int32} {a3 : Int32} {S : aS} (h : vp_in (1 : Int32) 60 ∧ ((((ga S 1032 (1 : Int32).toNatClampNeg) ≤ a3 → (vp_in (1 : Int32) 60 ∧ (vp_in (1 : Int32) 60 ∧ (aWM d 46 [.ref 1000, .int (ga S 1032 (1 : Int32).toNatClampNeg)] S (fun v1 S2 => aI v1 (fun x3 => aWM d 76 [.ref 1000, .int (ga S 1032 (1 : Int32).toNatClampNeg), .int x3, .int a1, .int a2] S2 (fun v4 S5 => aV v4 (Q .null S5)))))))) ∧ (¬ (ga S 1032 (1 : Int32).toNatClampNeg) ≤ a3 → (vp_in ((4 : Int32) + a3) 60 ∧ (vp_in (ga S 1032 ((4 : Int32) + a3).toNatClampNeg) 24 ∧ (vp_in ((4 : Int32) + a3) 60 ∧ (vp_in (ga S 1032 ((4 : Int32) + a3).toNatClampNeg) 24 ∧ (aBM d 77 Q 24 [some (.ref 1000), some (.int (a1 + (ga S 1008 (ga S 1032 ((4 : Int32) + a3).toNatClampNeg).toNatClampNeg))), some (.int (if a2 < (ga S 1008 (ga S 1032 ((4 : Int32) + a3).toNatClampNeg).toNatClampNeg) then (ga S 1008 (ga S 1032 ((4 : Int32) + a3).toNatClampNeg).toNatClampNeg) else a2)), some (.int (a3 + (1 : Int32)))] [] S))))))))) : aBM d 77 Q 24 [some (.ref 1000), some (.int a1), some (.int a2), some (.int a3)] [] S := aM_bl h
set_option maxRecDepth 100000 in
/-- best(I)I -/
theorem mM_best {d : Nat} {Q : Value → aS → Prop} {p0 : Int32} {S : aS} (h : ((p0 = (-1 : Int32) → (aBM d 78 Q 21 [some (.ref 1000), some (.int p0)] [] (si S 1000 0 (0 : Int32)))) ∧ (¬ p0 = (-1 : Int32) → (vp_in (1 : Int32) 60 ∧ (vp_in (2 : Int32) 8 ∧ (aWM d 1 [.int p0, .int (ga (si S 1000 0 (0 : Int32)) 1032 (1 : Int32).toNatClampNeg), .int ((ga (si S 1000 0 (0 : Int32)) 1002 (2 : Int32).toNatClampNeg) - (1 : Int32))] (si S 1000 0 (0 : Int32)) (fun v1 S2 => aI v1 (fun x3 => ((¬ x3 = 0 → (aBM d 78 Q 21 [some (.ref 1000), some (.int p0)] [] S2)) ∧ (x3 = 0 → (Q (.int (-2 : Int32)) S2))))))))))) : aWM (d + 1) 78 [.ref 1000, .int p0] S Q := aW_in rfl (aP_at h)
set_option maxRecDepth 100000 in
theorem bM_best_21 {d : Nat} {Q : Value → aS → Prop} {a1 : Int32} {S : aS} (h : aWM d 77 [.ref 1000] S (fun v1 S2 => aV v1 (((¬ (lg_cmp (gl S2 1000 56) (0 : Int64)) = 0 → ((¬ a1 = (-1 : Int32) → (vp_in a1 4 ∧ (Q (.int (ga S2 1038 a1.toNatClampNeg)) S2))) ∧ (a1 = (-1 : Int32) → (¬ (gl S2 1000 57) = 0 ∧ (Q (.int ((((gl S2 1000 56) * (1000000 : Int64)) / (gl S2 1000 57)).toInt32)) S2))))) ∧ ((lg_cmp (gl S2 1000 56) (0 : Int64)) = 0 → (Q (.int (-2 : Int32)) S2)))))) : aBM d 78 Q 21 [some (.ref 1000), some (.int a1)] [] S := aM_bl h
set_option maxRecDepth 100000 in
/-- worst()I -/
theorem mM_worst {d : Nat} {Q : Value → aS → Prop}  {S : aS} (h : aWM d 77 [.ref 1000] (si S 1000 0 (0 : Int32)) (fun v1 S2 => aV v1 (Q (.int (gi S2 1000 58)) S2))) : aWM (d + 1) 79 [.ref 1000] S Q := aW_in rfl (aP_at h)
set_option maxRecDepth 100000 in
/-- mean()I -/
theorem mM_mean {d : Nat} {Q : Value → aS → Prop}  {S : aS} (h : aWM d 77 [.ref 1000] (si S 1000 0 (0 : Int32)) (fun v1 S2 => aV v1 (¬ (1000 : Int64) = 0 ∧ (Q (.int (((gl S2 1000 59) / (1000 : Int64)).toInt32)) S2)))) : aWM (d + 1) 80 [.ref 1000] S Q := aW_in rfl (aP_at h)
set_option maxRecDepth 100000 in
/-- noneOnly()V -/
theorem mM_noneOnly {d : Nat} {Q : Value → aS → Prop}  {S : aS} (h : aBM d 81 Q 2 [some (.ref 1000), some (.int (0 : Int32))] [] S) : aWM (d + 1) 81 [.ref 1000] S Q := aW_in rfl (aP_at h)
set_option maxRecDepth 100000 in
theorem bM_noneOnly_2 {d : Nat} {Q : Value → aS → Prop} {a1 : Int32} {S : aS} (h : (((4 : Int32) ≤ a1 → (Q .null S)) ∧ (¬ (4 : Int32) ≤ a1 → (vp_in a1 4 ∧ (aBM d 81 Q 2 [some (.ref 1000), some (.int (a1 + (1 : Int32)))] [] (sa S 1040 a1.toNatClampNeg (-1 : Int32))))))) : aBM d 81 Q 2 [some (.ref 1000), some (.int a1)] [] S := aM_bl h
set_option maxRecDepth 100000 in
/-- goesOnAt(II)Z -/
theorem mM_goesOnAt {d : Nat} {Q : Value → aS → Prop} {p0 : Int32} {p1 : Int32} {S : aS} (h : vp_in p0 4 ∧ ((((ga S 1040 p0.toNatClampNeg) = (-1 : Int32) → (((1 : Int32) = 0 ∨ (1 : Int32) = 1) ∧ Q (.int (1 : Int32)) S)) ∧ (¬ (ga S 1040 p0.toNatClampNeg) = (-1 : Int32) → (vp_in p0 4 ∧ (((¬ (ga S 1040 p0.toNatClampNeg) = p1 → (((0 : Int32) = 0 ∨ (0 : Int32) = 1) ∧ Q (.int (0 : Int32)) S)) ∧ ((ga S 1040 p0.toNatClampNeg) = p1 → (((1 : Int32) = 0 ∨ (1 : Int32) = 1) ∧ Q (.int (1 : Int32)) S))))))))) : aWM (d + 1) 82 [.ref 1000, .int p0, .int p1] S Q := aW_in rfl (aP_at h)
set_option maxRecDepth 100000 in
/-- sharesFrom(IIII)V -/
theorem mM_sharesFrom {d : Nat} {Q : Value → aS → Prop} {p0 : Int32} {p1 : Int32} {p2 : Int32} {p3 : Int32} {S : aS} (h : aWM d 44 [.ref 1000, .int p1, .int p0] S (fun v1 S2 => aI v1 (fun x3 => aWM d 48 [.ref 1000, .int p0, .int x3, .int p3] S2 (fun v4 S5 => aI v4 (fun x6 => ((¬ x6 = 0 → (aBM d 83 Q 16 [some (.ref 1000), some (.int p0), none, some (.int p2), some (.int p3), some (.int x3), some (.int x6), some (.int (0 : Int32))] [] S5)) ∧ (x6 = 0 → (Q .null S5)))))))) : aWM (d + 1) 83 [.ref 1000, .int p0, .int p1, .int p2, .int p3] S Q := aW_in rfl (aP_at h)
set_option maxRecDepth 100000 in
theorem bM_sharesFrom_16 {d : Nat} {Q : Value → aS → Prop} {a1 : Int32} {a3 : Int32} {a4 : Int32} {a5 : Int32} {a6 : Int32} {a7 : Int32} {S : aS} (h : vp_in (1 : Int32) 8 ∧ ((((ga S 1002 (1 : Int32).toNatClampNeg) ≤ a7 → (Q .null S)) ∧ (¬ (ga S 1002 (1 : Int32).toNatClampNeg) ≤ a7 → (vp_in a7 24 ∧ (((¬ (ga S 1006 a7.toNatClampNeg) = a1 → (aBM d 83 Q 16 [some (.ref 1000), some (.int a1), none, some (.int a3), some (.int a4), some (.int a5), some (.int a6), some (.int (a7 + (1 : Int32)))] [] S)) ∧ ((ga S 1006 a7.toNatClampNeg) = a1 → (vp_in a7 12 ∧ (aWM d 45 [.ref 1000, .int a7, .int a5, .int a4] S (fun v1 S2 => aI v1 (fun x3 => ¬ a6.toInt64 = 0 ∧ (vp_in a7 12 ∧ (aBM d 83 Q 16 [some (.ref 1000), some (.int a1), none, some (.int a3), some (.int a4), some (.int a5), some (.int a6), some (.int (a7 + (1 : Int32)))] [] (sa S2 1039 a7.toNatClampNeg ((ga S 1039 a7.toNatClampNeg) + (((a3.toInt64 * x3.toInt64) / a6.toInt64).toInt32))))))))))))))))) : aBM d 83 Q 16 [some (.ref 1000), some (.int a1), none, some (.int a3), some (.int a4), some (.int a5), some (.int a6), some (.int a7)] [] S := aM_bl h
set_option maxRecDepth 100000 in
/-- sharesOut(III)I -/
theorem mM_sharesOut {d : Nat} {Q : Value → aS → Prop} {p0 : Int32} {p1 : Int32} {p2 : Int32} {S : aS} (h : aBM d 84 Q 2 [some (.ref 1000), some (.int p0), some (.int p1), some (.int p2), some (.int (0 : Int32)), none, none] [] S) : aWM (d + 1) 84 [.ref 1000, .int p0, .int p1, .int p2] S Q := aW_in rfl (aP_at h)
set_option maxRecDepth 100000 in
theorem bM_sharesOut_2 {d : Nat} {Q : Value → aS → Prop} {a1 : Int32} {a2 : Int32} {a3 : Int32} {a4 : Int32} {S : aS} (h : (((12 : Int32) ≤ a4 → (aWM d 83 [.ref 1000, .int a1, .int a2, .int (1000000 : Int32), .int a3] S (fun v1 S2 => aV v1 (aBM d 84 Q 20 [some (.ref 1000), none, some (.int a2), none, some (.int a1), none, none] [] S2)))) ∧ (¬ (12 : Int32) ≤ a4 → (vp_in a4 12 ∧ (aBM d 84 Q 2 [some (.ref 1000), some (.int a1), some (.int a2), some (.int a3), some (.int (a4 + (1 : Int32))), none, none] [] (sa S 1039 a4.toNatClampNeg (0 : Int32))))))) : aBM d 84 Q 2 [some (.ref 1000), some (.int a1), some (.int a2), some (.int a3), some (.int a4), none, none] [] S := aM_bl h
set_option maxRecDepth 100000 in
theorem bM_sharesOut_20 {d : Nat} {Q : Value → aS → Prop} {a2 : Int32} {a4 : Int32} {S : aS} (h : vp_in (2 : Int32) 8 ∧ ((((ga S 1002 (2 : Int32).toNatClampNeg) ≤ (a4 + (1 : Int32)) → (vp_in (2 : Int32) 8 ∧ (aBM d 84 Q 76 [some (.ref 1000), none, none, none, some (.int (0 : Int32)), some (.int ((ga S 1002 (2 : Int32).toNatClampNeg) - (1 : Int32))), some (.int (0 : Int32))] [] S))) ∧ (¬ (ga S 1002 (2 : Int32).toNatClampNeg) ≤ (a4 + (1 : Int32)) → (aBM d 84 Q 30 [some (.ref 1000), none, some (.int a2), none, some (.int a4), some (.int (0 : Int32)), none] [] S))))) : aBM d 84 Q 20 [some (.ref 1000), none, some (.int a2), none, some (.int a4), none, none] [] S := aM_bl h
set_option maxRecDepth 100000 in
theorem bM_sharesOut_30 {d : Nat} {Q : Value → aS → Prop} {a2 : Int32} {a4 : Int32} {a5 : Int32} {S : aS} (h : vp_in (1 : Int32) 8 ∧ ((((ga S 1002 (1 : Int32).toNatClampNeg) ≤ a5 → (aBM d 84 Q 20 [some (.ref 1000), none, some (.int a2), none, some (.int (a4 + (1 : Int32))), none, none] [] S)) ∧ (¬ (ga S 1002 (1 : Int32).toNatClampNeg) ≤ a5 → (vp_in a5 24 ∧ (((¬ (ga S 1006 a5.toNatClampNeg) = a4 → (aBM d 84 Q 30 [some (.ref 1000), none, some (.int a2), none, some (.int a4), some (.int (a5 + (1 : Int32))), none] [] S)) ∧ ((ga S 1006 a5.toNatClampNeg) = a4 → (aWM d 82 [.ref 1000, .int a4, .int a5] S (fun v1 S2 => aI v1 (fun x3 => ((x3 = 0 → (aBM d 84 Q 30 [some (.ref 1000), none, some (.int a2), none, some (.int a4), some (.int (a5 + (1 : Int32))), none] [] S2)) ∧ (¬ x3 = 0 → (vp_in a5 12 ∧ (vp_in a5 24 ∧ (aWM d 83 [.ref 1000, .int (a4 + (1 : Int32)), .int a2, .int (ga S2 1039 a5.toNatClampNeg), .int (ga S2 1008 a5.toNatClampNeg)] S2 (fun v4 S5 => aV v4 (aBM d 84 Q 30 [some (.ref 1000), none, some (.int a2), none, some (.int a4), some (.int (a5 + (1 : Int32))), none] [] S5)))))))))))))))))) : aBM d 84 Q 30 [some (.ref 1000), none, some (.int a2), none, some (.int a4), some (.int a5), none] [] S := aM_bl h
set_option maxRecDepth 100000 in
theorem bM_sharesOut_76 {d : Nat} {Q : Value → aS → Prop} {a4 : Int32} {a5 : Int32} {a6 : Int32} {S : aS} (h : vp_in (1 : Int32) 8 ∧ ((((ga S 1002 (1 : Int32).toNatClampNeg) ≤ a6 → (Q (.int a4) S)) ∧ (¬ (ga S 1002 (1 : Int32).toNatClampNeg) ≤ a6 → (vp_in a6 24 ∧ (((¬ (ga S 1006 a6.toNatClampNeg) = a5 → (aBM d 84 Q 76 [some (.ref 1000), none, none, none, some (.int (a4 + (0 : Int32))), some (.int a5), some (.int (a6 + (1 : Int32)))] [] S)) ∧ ((ga S 1006 a6.toNatClampNeg) = a5 → (aWM d 82 [.ref 1000, .int a5, .int a6] S (fun v1 S2 => aI v1 (fun x3 => ((x3 = 0 → (aBM d 84 Q 76 [some (.ref 1000), none, none, none, some (.int (a4 + (0 : Int32))), some (.int a5), some (.int (a6 + (1 : Int32)))] [] S2)) ∧ (¬ x3 = 0 → (vp_in a6 12 ∧ (aBM d 84 Q 76 [some (.ref 1000), none, none, none, some (.int (a4 + (ga S2 1039 a6.toNatClampNeg))), some (.int a5), some (.int (a6 + (1 : Int32)))] [] S2))))))))))))))) : aBM d 84 Q 76 [some (.ref 1000), none, none, none, some (.int a4), some (.int a5), some (.int a6)] [] S := aM_bl h
set_option maxRecDepth 100000 in
/-- aim(II)I -/
theorem mM_aim {d : Nat} {Q : Value → aS → Prop} {p0 : Int32} {p1 : Int32} {S : aS} (h : aWM d 43 [.ref 1000, .int p0] (si S 1000 0 (0 : Int32)) (fun v1 S2 => aI v1 (fun x3 => ((x3 = 0 → (Q (.int (-1 : Int32)) S2)) ∧ (¬ x3 = 0 → (aWM d 1 [.int p1, .int (0 : Int32), .int (1 : Int32)] S2 (fun v4 S5 => aI v4 (fun x6 => ((x6 = 0 → (Q (.int (-1 : Int32)) S5)) ∧ (¬ x6 = 0 → (vp_in p0 24 ∧ (vp_in (2 : Int32) 8 ∧ ((((ga S5 1006 p0.toNatClampNeg) = ((ga S5 1002 (2 : Int32).toNatClampNeg) - (1 : Int32)) → (aWM d 81 [.ref 1000] S5 (fun v7 S8 => aV v7 (aBM d 85 Q 33 [some (.ref 1000), some (.int p0), some (.int p1), some (.int (-1 : Int32)), some (.int (0 : Int32)), some (.int (0 : Int32)), none] [] S8)))) ∧ (¬ (ga S5 1006 p0.toNatClampNeg) = ((ga S5 1002 (2 : Int32).toNatClampNeg) - (1 : Int32)) → (Q (.int (-1 : Int32)) S5)))))))))))))))) : aWM (d + 1) 85 [.ref 1000, .int p0, .int p1] S Q := aW_in rfl (aP_at h)
set_option maxRecDepth 100000 in
theorem bM_aim_33 {d : Nat} {Q : Value → aS → Prop} {a1 : Int32} {a2 : Int32} {a3 : Int32} {a4 : Int32} {a5 : Int32} {S : aS} (h : vp_in (1 : Int32) 8 ∧ ((((ga S 1002 (1 : Int32).toNatClampNeg) ≤ a5 → ((a3 < 0 → (Q (.int a3) S)) ∧ (¬ a3 < 0 → ((¬ a2 = 0 → (Q (.int a4) S)) ∧ (a2 = 0 → (Q (.int a3) S)))))) ∧ (¬ (ga S 1002 (1 : Int32).toNatClampNeg) ≤ a5 → (aWM d 55 [.ref 1000, .int a5] S (fun v1 S2 => aI v1 (fun x3 => ((¬ x3 = 0 → ((¬ a5 = a1 → (aBM d 85 Q 50 [some (.ref 1000), some (.int a1), some (.int a2), some (.int a3), some (.int a4), some (.int a5), none] [.int (0 : Int32)] S2)) ∧ (a5 = a1 → (aBM d 85 Q 50 [some (.ref 1000), some (.int a1), some (.int a2), some (.int a3), some (.int a4), some (.int a5), none] [.int (1000000 : Int32)] S2)))) ∧ (x3 = 0 → (aBM d 85 Q 33 [some (.ref 1000), some (.int a1), some (.int a2), some (.int a3), some (.int a4), some (.int (a5 + (1 : Int32))), none] [] S2)))))))))) : aBM d 85 Q 33 [some (.ref 1000), some (.int a1), some (.int a2), some (.int a3), some (.int a4), some (.int a5), none] [] S := aM_bl h
set_option maxRecDepth 100000 in
theorem bM_aim_50 {d : Nat} {Q : Value → aS → Prop} {a1 : Int32} {a2 : Int32} {a3 : Int32} {a4 : Int32} {a5 : Int32} {s0 : Int32} {S : aS} (h : vp_in (1 : Int32) 60 ∧ (vp_in (2 : Int32) 8 ∧ ((((ga S 1002 (2 : Int32).toNatClampNeg) ≤ ((ga S 1032 (1 : Int32).toNatClampNeg) + (1 : Int32)) → (aBM d 85 Q 84 [some (.ref 1000), some (.int a1), some (.int a2), some (.int a3), some (.int a4), some (.int a5), some (.int s0)] [] S)) ∧ (¬ (ga S 1002 (2 : Int32).toNatClampNeg) ≤ ((ga S 1032 (1 : Int32).toNatClampNeg) + (1 : Int32)) → (vp_in (1 : Int32) 60 ∧ (vp_in (0 : Int32) 60 ∧ (vp_in a5 24 ∧ (aWM d 84 [.ref 1000, .int ((ga S 1032 (1 : Int32).toNatClampNeg) + (1 : Int32)), .int (ga S 1032 (0 : Int32).toNatClampNeg), .int (ga S 1008 a5.toNatClampNeg)] S (fun v1 S2 => aI v1 (fun x3 => vp_in a1 12 ∧ (aBM d 85 Q 84 [some (.ref 1000), some (.int a1), some (.int a2), some (.int a3), some (.int a4), some (.int a5), some (.int (ga S2 1039 a1.toNatClampNeg))] [] S2)))))))))))) : aBM d 85 Q 50 [some (.ref 1000), some (.int a1), some (.int a2), some (.int a3), some (.int a4), some (.int a5), none] [.int s0] S := aM_bl h
set_option maxRecDepth 100000 in
theorem bM_aim_84 {d : Nat} {Q : Value → aS → Prop} {a1 : Int32} {a2 : Int32} {a3 : Int32} {a4 : Int32} {a5 : Int32} {a6 : Int32} {S : aS} (h : ((a3 < 0 → (aBM d 85 Q 33 [some (.ref 1000), some (.int a1), some (.int a2), some (.int a5), some (.int a6), some (.int (a5 + (1 : Int32))), none] [] S)) ∧ (¬ a3 < 0 → ((a4 < a6 → (aBM d 85 Q 33 [some (.ref 1000), some (.int a1), some (.int a2), some (.int a5), some (.int a6), some (.int (a5 + (1 : Int32))), none] [] S)) ∧ (¬ a4 < a6 → (aBM d 85 Q 33 [some (.ref 1000), some (.int a1), some (.int a2), some (.int a3), some (.int a4), some (.int (a5 + (1 : Int32))), none] [] S)))))) : aBM d 85 Q 84 [some (.ref 1000), some (.int a1), some (.int a2), some (.int a3), some (.int a4), some (.int a5), some (.int a6)] [] S := aM_bl h
set_option maxRecDepth 100000 in
/-- meet(III)I -/
theorem mM_meet {d : Nat} {Q : Value → aS → Prop} {p0 : Int32} {p1 : Int32} {p2 : Int32} {S : aS} (h : aWM d 43 [.ref 1000, .int p0] (si S 1000 0 (0 : Int32)) (fun v1 S2 => aI v1 (fun x3 => ((x3 = 0 → (Q (.int (-1 : Int32)) S2)) ∧ (¬ x3 = 0 → (aWM d 43 [.ref 1000, .int p1] S2 (fun v4 S5 => aI v4 (fun x6 => ((x6 = 0 → (Q (.int (-1 : Int32)) S5)) ∧ (¬ x6 = 0 → (aWM d 1 [.int p2, .int (1 : Int32), .int (9 : Int32)] S5 (fun v7 S8 => aI v7 (fun x9 => ((x9 = 0 → (Q (.int (-1 : Int32)) S8)) ∧ (¬ x9 = 0 → (vp_in p0 24 ∧ (vp_in p1 24 ∧ ((((ga S8 1006 p0.toNatClampNeg) = (ga S8 1006 p1.toNatClampNeg) → (Q (.int (-1 : Int32)) S8)) ∧ (¬ (ga S8 1006 p0.toNatClampNeg) = (ga S8 1006 p1.toNatClampNeg) → (vp_in p0 24 ∧ (vp_in (2 : Int32) 8 ∧ ((((ga S8 1002 (2 : Int32).toNatClampNeg) ≤ (ga S8 1006 p0.toNatClampNeg) → (Q (.int (-1 : Int32)) S8)) ∧ (¬ (ga S8 1002 (2 : Int32).toNatClampNeg) ≤ (ga S8 1006 p0.toNatClampNeg) → (vp_in p1 24 ∧ (vp_in (2 : Int32) 8 ∧ ((((ga S8 1006 p1.toNatClampNeg) < (ga S8 1002 (2 : Int32).toNatClampNeg) → (aWM d 81 [.ref 1000] S8 (fun v10 S11 => aV v10 (vp_in p0 24 ∧ (vp_in (ga S11 1006 p0.toNatClampNeg) 4 ∧ (vp_in p1 24 ∧ (vp_in (ga (sa S11 1040 (ga S11 1006 p0.toNatClampNeg).toNatClampNeg p0) 1006 p1.toNatClampNeg) 4 ∧ (aBM d 86 Q 67 [some (.ref 1000), none, none, some (.int p2), some (.int (1000000 : Int32)), some (.int (0 : Int32))] [] (sa (sa S11 1040 (ga S11 1006 p0.toNatClampNeg).toNatClampNeg p0) 1040 (ga (sa S11 1040 (ga S11 1006 p0.toNatClampNeg).toNatClampNeg p0) 1006 p1.toNatClampNeg).toNatClampNeg p1))))))))) ∧ (¬ (ga S8 1006 p1.toNatClampNeg) < (ga S8 1002 (2 : Int32).toNatClampNeg) → (Q (.int (-1 : Int32)) S8))))))))))))))))))))))))))))))) : aWM (d + 1) 86 [.ref 1000, .int p0, .int p1, .int p2] S Q := aW_in rfl (aP_at h)
set_option maxRecDepth 100000 in
theorem bM_meet_67 {d : Nat} {Q : Value → aS → Prop} {a3 : Int32} {a4 : Int32} {a5 : Int32} {S : aS} (h : ((a3 ≤ a5 → (Q (.int ((1000000 : Int32) - a4)) S)) ∧ (¬ a3 ≤ a5 → (vp_in (0 : Int32) 60 ∧ (aWM d 84 [.ref 1000, .int (0 : Int32), .int ((ga S 1032 (0 : Int32).toNatClampNeg) + a5), .int (0 : Int32)] S (fun v1 S2 => aI v1 (fun x3 => ¬ (1000000 : Int64) = 0 ∧ (aBM d 86 Q 67 [some (.ref 1000), none, none, some (.int a3), some (.int (((a4.toInt64 * (((1000000 : Int32) - x3).toInt64)) / (1000000 : Int64)).toInt32)), some (.int (a5 + (1 : Int32)))] [] S2)))))))) : aBM d 86 Q 67 [some (.ref 1000), none, none, some (.int a3), some (.int a4), some (.int a5)] [] S := aM_bl h
set_option maxRecDepth 100000 in
/-- clashes()I -/
theorem mM_clashes {d : Nat} {Q : Value → aS → Prop}  {S : aS} (h : aWM d 68 [.ref 1000] (si S 1000 0 (0 : Int32)) (fun v1 S2 => aI v1 (fun x3 => aWM d 67 [.ref 1000, .int x3] S2 (fun v4 S5 => aI v4 (fun x6 => Q (.int x6) S5))))) : aWM (d + 1) 87 [.ref 1000] S Q := aW_in rfl (aP_at h)
set_option maxRecDepth 100000 in
/-- fire()I -/
theorem mM_fire {d : Nat} {Q : Value → aS → Prop}  {S : aS} (h : aWM d 68 [.ref 1000] (si S 1000 0 (0 : Int32)) (fun v1 S2 => aI v1 (fun x3 => aBM d 88 Q 10 [some (.ref 1000), some (.int x3), some (.int (-1 : Int32)), some (.int (0 : Int32))] [] S2))) : aWM (d + 1) 88 [.ref 1000] S Q := aW_in rfl (aP_at h)
set_option maxRecDepth 100000 in
theorem bM_fire_10 {d : Nat} {Q : Value → aS → Prop} {a1 : Int32} {a2 : Int32} {a3 : Int32} {S : aS} (h : ((a1 < a3 → (Q (.int a2) S)) ∧ (¬ a1 < a3 → ((a2 < 0 → (aWM d 67 [.ref 1000, .int (a1 &&& (a3 ^^^ (-1 : Int32)))] S (fun v1 S2 => aI v1 (fun x3 => ((¬ x3 = 0 → (aBM d 88 Q 10 [some (.ref 1000), some (.int a1), some (.int a2), some (.int (a3 + (1 : Int32)))] [] S2)) ∧ (x3 = 0 → (aBM d 88 Q 10 [some (.ref 1000), some (.int a1), some (.int a3), some (.int (a3 + (1 : Int32)))] [] S2))))))) ∧ (¬ a2 < 0 → (aWM d 3 [.int a3] S (fun v4 S5 => aI v4 (fun x6 => aWM d 3 [.int a2] S5 (fun v7 S8 => aI v7 (fun x9 => ((x9 ≤ x6 → (aBM d 88 Q 10 [some (.ref 1000), some (.int a1), some (.int a2), some (.int (a3 + (1 : Int32)))] [] S8)) ∧ (¬ x9 ≤ x6 → (aWM d 67 [.ref 1000, .int (a1 &&& (a3 ^^^ (-1 : Int32)))] S8 (fun v10 S11 => aI v10 (fun x12 => ((¬ x12 = 0 → (aBM d 88 Q 10 [some (.ref 1000), some (.int a1), some (.int a2), some (.int (a3 + (1 : Int32)))] [] S11)) ∧ (x12 = 0 → (aBM d 88 Q 10 [some (.ref 1000), some (.int a1), some (.int a3), some (.int (a3 + (1 : Int32)))] [] S11)))))))))))))))))) : aBM d 88 Q 10 [some (.ref 1000), some (.int a1), some (.int a2), some (.int a3)] [] S := aM_bl h
set_option maxRecDepth 100000 in
/-- read(I)Z -/
theorem mM_read {d : Nat} {Q : Value → aS → Prop} {p0 : Int32} {S : aS} (h : aWM d 43 [.ref 1000, .int p0] (si S 1000 0 (0 : Int32)) (fun v1 S2 => aI v1 (fun x3 => ((x3 = 0 → (((0 : Int32) = 0 ∨ (0 : Int32) = 1) ∧ Q (.int (0 : Int32)) S2)) ∧ (¬ x3 = 0 → (vp_in p0 24 ∧ (vp_in (2 : Int32) 8 ∧ ((((ga S2 1002 (2 : Int32).toNatClampNeg) ≤ (ga S2 1006 p0.toNatClampNeg) → (((0 : Int32) = 0 ∨ (0 : Int32) = 1) ∧ Q (.int (0 : Int32)) S2)) ∧ (¬ (ga S2 1002 (2 : Int32).toNatClampNeg) ≤ (ga S2 1006 p0.toNatClampNeg) → (vp_in (0 : Int32) 5 ∧ (((¬ (ga S2 1030 (0 : Int32).toNatClampNeg) = (8 : Int32) → (vp_in (0 : Int32) 5 ∧ (vp_in (ga S2 1030 (0 : Int32).toNatClampNeg) 40 ∧ (vp_in (0 : Int32) 5 ∧ (vp_in (0 : Int32) 5 ∧ (((1 : Int32) = 0 ∨ (1 : Int32) = 1) ∧ Q (.int (1 : Int32)) (sa (sa S2 1031 (ga S2 1030 (0 : Int32).toNatClampNeg).toNatClampNeg p0) 1030 (0 : Int32).toNatClampNeg ((ga (sa S2 1031 (ga S2 1030 (0 : Int32).toNatClampNeg).toNatClampNeg p0) 1030 (0 : Int32).toNatClampNeg) + (1 : Int32))))))))) ∧ ((ga S2 1030 (0 : Int32).toNatClampNeg) = (8 : Int32) → (((0 : Int32) = 0 ∨ (0 : Int32) = 1) ∧ Q (.int (0 : Int32)) S2))))))))))))))) : aWM (d + 1) 89 [.ref 1000, .int p0] S Q := aW_in rfl (aP_at h)
set_option maxRecDepth 100000 in
/-- laysOnly()Z -/
theorem mM_laysOnly {d : Nat} {Q : Value → aS → Prop}  {S : aS} (h : aWM d 81 [.ref 1000] S (fun v1 S2 => aV v1 (aBM d 90 Q 4 [some (.ref 1000), some (.int (0 : Int32)), none] [] S2))) : aWM (d + 1) 90 [.ref 1000] S Q := aW_in rfl (aP_at h)
set_option maxRecDepth 100000 in
theorem bM_laysOnly_4 {d : Nat} {Q : Value → aS → Prop} {a1 : Int32} {S : aS} (h : vp_in (0 : Int32) 5 ∧ ((((ga S 1030 (0 : Int32).toNatClampNeg) ≤ a1 → (((1 : Int32) = 0 ∨ (1 : Int32) = 1) ∧ Q (.int (1 : Int32)) S)) ∧ (¬ (ga S 1030 (0 : Int32).toNatClampNeg) ≤ a1 → (vp_in a1 40 ∧ (vp_in (ga S 1031 a1.toNatClampNeg) 24 ∧ (vp_in (ga S 1006 (ga S 1031 a1.toNatClampNeg).toNatClampNeg) 4 ∧ ((((ga S 1040 (ga S 1006 (ga S 1031 a1.toNatClampNeg).toNatClampNeg).toNatClampNeg) < 0 → (vp_in (ga S 1031 a1.toNatClampNeg) 24 ∧ (vp_in (ga S 1006 (ga S 1031 a1.toNatClampNeg).toNatClampNeg) 4 ∧ (aBM d 90 Q 4 [some (.ref 1000), some (.int (a1 + (1 : Int32))), none] [] (sa S 1040 (ga S 1006 (ga S 1031 a1.toNatClampNeg).toNatClampNeg).toNatClampNeg (ga S 1031 a1.toNatClampNeg)))))) ∧ (¬ (ga S 1040 (ga S 1006 (ga S 1031 a1.toNatClampNeg).toNatClampNeg).toNatClampNeg) < 0 → (vp_in (ga S 1031 a1.toNatClampNeg) 24 ∧ (vp_in (ga S 1006 (ga S 1031 a1.toNatClampNeg).toNatClampNeg) 4 ∧ ((((ga S 1040 (ga S 1006 (ga S 1031 a1.toNatClampNeg).toNatClampNeg).toNatClampNeg) = (ga S 1031 a1.toNatClampNeg) → (vp_in (ga S 1031 a1.toNatClampNeg) 24 ∧ (vp_in (ga S 1006 (ga S 1031 a1.toNatClampNeg).toNatClampNeg) 4 ∧ (aBM d 90 Q 4 [some (.ref 1000), some (.int (a1 + (1 : Int32))), none] [] (sa S 1040 (ga S 1006 (ga S 1031 a1.toNatClampNeg).toNatClampNeg).toNatClampNeg (ga S 1031 a1.toNatClampNeg)))))) ∧ (¬ (ga S 1040 (ga S 1006 (ga S 1031 a1.toNatClampNeg).toNatClampNeg).toNatClampNeg) = (ga S 1031 a1.toNatClampNeg) → (((0 : Int32) = 0 ∨ (0 : Int32) = 1) ∧ Q (.int (0 : Int32)) S)))))))))))))))) : aBM d 90 Q 4 [some (.ref 1000), some (.int a1), none] [] S := aM_bl h
set_option maxRecDepth 100000 in
/-- beganBy()I -/
theorem mM_beganBy {d : Nat} {Q : Value → aS → Prop}  {S : aS} (h : aBM d 91 Q 4 [some (.ref 1000), some (.int (0 : Int32)), some (.int (0 : Int32))] [] S) : aWM (d + 1) 91 [.ref 1000] S Q := aW_in rfl (aP_at h)
set_option maxRecDepth 100000 in
theorem bM_beganBy_4 {d : Nat} {Q : Value → aS → Prop} {a1 : Int32} {a2 : Int32} {S : aS} (h : vp_in (0 : Int32) 8 ∧ ((((ga S 1002 (0 : Int32).toNatClampNeg) ≤ a2 → (Q (.int a1) S)) ∧ (¬ (ga S 1002 (0 : Int32).toNatClampNeg) ≤ a2 → (aWM d 90 [.ref 1000] S (fun v1 S2 => aI v1 (fun x3 => ((x3 = 0 → (aBM d 91 Q 4 [some (.ref 1000), some (.int (a1 ||| (0 : Int32))), some (.int (a2 + (1 : Int32)))] [] S2)) ∧ (¬ x3 = 0 → (aWM d 84 [.ref 1000, .int (0 : Int32), .int a2, .int (0 : Int32)] S2 (fun v4 S5 => aI v4 (fun x6 => ((x6 ≤ 0 → (aBM d 91 Q 4 [some (.ref 1000), some (.int (a1 ||| (0 : Int32))), some (.int (a2 + (1 : Int32)))] [] S5)) ∧ (¬ x6 ≤ 0 → (aBM d 91 Q 4 [some (.ref 1000), some (.int (a1 ||| ((1 : Int32) <<< (a2 &&& 31)))), some (.int (a2 + (1 : Int32)))] [] S5))))))))))))))) : aBM d 91 Q 4 [some (.ref 1000), some (.int a1), some (.int a2)] [] S := aM_bl h
set_option maxRecDepth 100000 in
/-- began()I -/
theorem mM_began {d : Nat} {Q : Value → aS → Prop}  {S : aS} (h : aWM d 91 [.ref 1000] (si S 1000 0 (0 : Int32)) (fun v1 S2 => aI v1 (fun x3 => Q (.int x3) S2))) : aWM (d + 1) 92 [.ref 1000] S Q := aW_in rfl (aP_at h)
set_option maxRecDepth 100000 in
/-- sure()I -/
theorem mM_sure {d : Nat} {Q : Value → aS → Prop}  {S : aS} (h : aBM d 93 Q 9 [some (.ref 1000), some (.int (-1 : Int32)), some (.int (0 : Int32)), some (.int (0 : Int32)), none] [] (si S 1000 0 (0 : Int32))) : aWM (d + 1) 93 [.ref 1000] S Q := aW_in rfl (aP_at h)
set_option maxRecDepth 100000 in
theorem bM_sure_9 {d : Nat} {Q : Value → aS → Prop} {a1 : Int32} {a2 : Int32} {a3 : Int32} {S : aS} (h : vp_in (0 : Int32) 8 ∧ ((((ga S 1002 (0 : Int32).toNatClampNeg) ≤ a3 → (Q (.int a1) S)) ∧ (¬ (ga S 1002 (0 : Int32).toNatClampNeg) ≤ a3 → (aWM d 90 [.ref 1000] S (fun v1 S2 => aI v1 (fun x3 => ((x3 = 0 → ((a2 < (0 : Int32) → (aBM d 93 Q 9 [some (.ref 1000), some (.int a3), some (.int (0 : Int32)), some (.int (a3 + (1 : Int32))), none] [] S2)) ∧ (¬ a2 < (0 : Int32) → (aBM d 93 Q 9 [some (.ref 1000), some (.int a1), some (.int a2), some (.int (a3 + (1 : Int32))), none] [] S2)))) ∧ (¬ x3 = 0 → (aWM d 84 [.ref 1000, .int (0 : Int32), .int a3, .int (0 : Int32)] S2 (fun v4 S5 => aI v4 (fun x6 => ((a2 < x6 → (aBM d 93 Q 9 [some (.ref 1000), some (.int a3), some (.int x6), some (.int (a3 + (1 : Int32))), none] [] S5)) ∧ (¬ a2 < x6 → (aBM d 93 Q 9 [some (.ref 1000), some (.int a1), some (.int a2), some (.int (a3 + (1 : Int32))), none] [] S5))))))))))))))) : aBM d 93 Q 9 [some (.ref 1000), some (.int a1), some (.int a2), some (.int a3), none] [] S := aM_bl h
set_option maxRecDepth 100000 in
/-- likeliest(II)I -/
theorem mM_likeliest {d : Nat} {Q : Value → aS → Prop} {p0 : Int32} {p1 : Int32} {S : aS} (h : aBM d 94 Q 6 [some (.ref 1000), some (.int p0), some (.int p1), some (.int (-1 : Int32)), some (.int (0 : Int32)), some (.int (0 : Int32)), none] [] S) : aWM (d + 1) 94 [.ref 1000, .int p0, .int p1] S Q := aW_in rfl (aP_at h)
set_option maxRecDepth 100000 in
theorem bM_likeliest_6 {d : Nat} {Q : Value → aS → Prop} {a1 : Int32} {a2 : Int32} {a3 : Int32} {a4 : Int32} {a5 : Int32} {S : aS} (h : vp_in (1 : Int32) 8 ∧ ((((ga S 1002 (1 : Int32).toNatClampNeg) ≤ a5 → (Q (.int a3) S)) ∧ (¬ (ga S 1002 (1 : Int32).toNatClampNeg) ≤ a5 → (vp_in a5 24 ∧ (((¬ (ga S 1006 a5.toNatClampNeg) = a1 → ((a4 < (0 : Int32) → (aBM d 94 Q 6 [some (.ref 1000), some (.int a1), some (.int a2), some (.int a5), some (.int (0 : Int32)), some (.int (a5 + (1 : Int32))), none] [] S)) ∧ (¬ a4 < (0 : Int32) → (aBM d 94 Q 6 [some (.ref 1000), some (.int a1), some (.int a2), some (.int a3), some (.int a4), some (.int (a5 + (1 : Int32))), none] [] S)))) ∧ ((ga S 1006 a5.toNatClampNeg) = a1 → (aWM d 45 [.ref 1000, .int a5, .int a2, .int (0 : Int32)] S (fun v1 S2 => aI v1 (fun x3 => ((a4 < x3 → (aBM d 94 Q 6 [some (.ref 1000), some (.int a1), some (.int a2), some (.int a5), some (.int x3), some (.int (a5 + (1 : Int32))), none] [] S2)) ∧ (¬ a4 < x3 → (aBM d 94 Q 6 [some (.ref 1000), some (.int a1), some (.int a2), some (.int a3), some (.int a4), some (.int (a5 + (1 : Int32))), none] [] S2)))))))))))))) : aBM d 94 Q 6 [some (.ref 1000), some (.int a1), some (.int a2), some (.int a3), some (.int a4), some (.int a5), none] [] S := aM_bl h
set_option maxRecDepth 100000 in
/-- ask()I -/
theorem mM_ask {d : Nat} {Q : Value → aS → Prop}  {S : aS} (h : aWM d 91 [.ref 1000] (si S 1000 0 (0 : Int32)) (fun v1 S2 => aI v1 (fun x3 => aWM d 90 [.ref 1000] S2 (fun v4 S5 => aI v4 (fun x6 => aBM d 95 Q 15 [some (.ref 1000), some (.int x3), some (.int (-1 : Int32)), some (.int (1 : Int32)), some (.int (0 : Int32)), none, none, none] [] S5))))) : aWM (d + 1) 95 [.ref 1000] S Q := aW_in rfl (aP_at h)
set_option maxRecDepth 100000 in
theorem bM_ask_15 {d : Nat} {Q : Value → aS → Prop} {a1 : Int32} {a2 : Int32} {a3 : Int32} {a4 : Int32} {S : aS} (h : vp_in (2 : Int32) 8 ∧ ((((ga S 1002 (2 : Int32).toNatClampNeg) ≤ a4 → (Q (.int a2) S)) ∧ (¬ (ga S 1002 (2 : Int32).toNatClampNeg) ≤ a4 → (vp_in a4 4 ∧ ((((ga S 1040 a4.toNatClampNeg) < 0 → (aBM d 95 Q 31 [some (.ref 1000), some (.int a1), some (.int a2), some (.int a3), some (.int a4), some (.int (0 : Int32)), some (.int (0 : Int32)), none] [] S)) ∧ (¬ (ga S 1040 a4.toNatClampNeg) < 0 → (aBM d 95 Q 15 [some (.ref 1000), some (.int a1), some (.int a2), some (.int a3), some (.int (a4 + (1 : Int32))), none, none, none] [] S))))))))) : aBM d 95 Q 15 [some (.ref 1000), some (.int a1), some (.int a2), some (.int a3), some (.int a4), none, none, none] [] S := aM_bl h
set_option maxRecDepth 100000 in
theorem bM_ask_31 {d : Nat} {Q : Value → aS → Prop} {a1 : Int32} {a2 : Int32} {a3 : Int32} {a4 : Int32} {a5 : Int32} {a6 : Int32} {S : aS} (h : vp_in (0 : Int32) 8 ∧ ((((ga S 1002 (0 : Int32).toNatClampNeg) ≤ a6 → (aWM d 3 [.int a5] S (fun v1 S2 => aI v1 (fun x3 => ((a3 < x3 → (aWM d 3 [.int a5] S2 (fun v4 S5 => aI v4 (fun x6 => aBM d 95 Q 15 [some (.ref 1000), some (.int a1), some (.int a4), some (.int x6), some (.int (a4 + (1 : Int32))), none, none, none] [] S5)))) ∧ (¬ a3 < x3 → (aBM d 95 Q 15 [some (.ref 1000), some (.int a1), some (.int a2), some (.int a3), some (.int (a4 + (1 : Int32))), none, none, none] [] S2))))))) ∧ (¬ (ga S 1002 (0 : Int32).toNatClampNeg) ≤ a6 → ((¬ ((a1 >>> (a6 &&& 31)) &&& (1 : Int32)) = (1 : Int32) → (aBM d 95 Q 53 [some (.ref 1000), some (.int a1), some (.int a2), some (.int a3), some (.int a4), some (.int a5), some (.int a6), none] [.int (-1 : Int32)] S)) ∧ (((a1 >>> (a6 &&& 31)) &&& (1 : Int32)) = (1 : Int32) → (aWM d 44 [.ref 1000, .int a6, .int a4] S (fun v7 S8 => aI v7 (fun x9 => aWM d 94 [.ref 1000, .int a4, .int x9] S8 (fun v10 S11 => aI v10 (fun x12 => aBM d 95 Q 53 [some (.ref 1000), some (.int a1), some (.int a2), some (.int a3), some (.int a4), some (.int a5), some (.int a6), none] [.int x12] S11))))))))))) : aBM d 95 Q 31 [some (.ref 1000), some (.int a1), some (.int a2), some (.int a3), some (.int a4), some (.int a5), some (.int a6), none] [] S := aM_bl h
set_option maxRecDepth 100000 in
theorem bM_ask_53 {d : Nat} {Q : Value → aS → Prop} {a1 : Int32} {a2 : Int32} {a3 : Int32} {a4 : Int32} {a5 : Int32} {a6 : Int32} {s0 : Int32} {S : aS} (h : ((0 ≤ s0 → (aBM d 95 Q 31 [some (.ref 1000), some (.int a1), some (.int a2), some (.int a3), some (.int a4), some (.int (a5 ||| ((1 : Int32) <<< (s0 &&& 31)))), some (.int (a6 + (1 : Int32))), none] [] S)) ∧ (¬ 0 ≤ s0 → (aBM d 95 Q 31 [some (.ref 1000), some (.int a1), some (.int a2), some (.int a3), some (.int a4), some (.int (a5 ||| (0 : Int32))), some (.int (a6 + (1 : Int32))), none] [] S)))) : aBM d 95 Q 53 [some (.ref 1000), some (.int a1), some (.int a2), some (.int a3), some (.int a4), some (.int a5), some (.int a6), none] [.int s0] S := aM_bl h
set_option maxRecDepth 100000 in
/-- spent()I -/
theorem mM_spent {d : Nat} {Q : Value → aS → Prop}  {S : aS} (h : aWM d 35 [.ref 1032, .int (0 : Int32), .ref 1033, .int (0 : Int32)] (si S 1000 0 (0 : Int32)) (fun v1 S2 => aV v1 (aWM d 77 [.ref 1000] S2 (fun v3 S4 => aV v3 (aBM d 96 Q 14 [some (.ref 1000), some (.int (0 : Int32)), none, none] [] S4))))) : aWM (d + 1) 96 [.ref 1000] S Q := aW_in rfl (aP_at h)
set_option maxRecDepth 100000 in
theorem bM_spent_14 {d : Nat} {Q : Value → aS → Prop} {a1 : Int32} {S : aS} (h : (((lg_cmp (gl S 1000 56) (0 : Int64)) ≤ 0 → (aWM d 35 [.ref 1033, .int (0 : Int32), .ref 1032, .int (0 : Int32)] S (fun v1 S2 => aV v1 (Q (.int a1) S2)))) ∧ (¬ (lg_cmp (gl S 1000 56) (0 : Int64)) ≤ 0 → (vp_in (1 : Int32) 60 ∧ (aBM d 96 Q 24 [some (.ref 1000), some (.int a1), some (.int (ga S 1032 (1 : Int32).toNatClampNeg)), none] [] S))))) : aBM d 96 Q 14 [some (.ref 1000), some (.int a1), none, none] [] S := aM_bl h
set_option maxRecDepth 100000 in
theorem bM_spent_24 {d : Nat} {Q : Value → aS → Prop} {a1 : Int32} {a2 : Int32} {S : aS} (h : vp_in (2 : Int32) 8 ∧ ((((ga S 1002 (2 : Int32).toNatClampNeg) ≤ a2 → (vp_in (1 : Int32) 60 ∧ (aBM d 96 Q 47 [some (.ref 1000), some (.int a1), none, some (.int (ga S 1032 (1 : Int32).toNatClampNeg))] [] S))) ∧ (¬ (ga S 1002 (2 : Int32).toNatClampNeg) ≤ a2 → (vp_in a2 4 ∧ (vp_in a2 4 ∧ (aBM d 96 Q 24 [some (.ref 1000), some (.int a1), some (.int (a2 + (1 : Int32))), none] [] (sa S 1037 a2.toNatClampNeg (ga S 1038 a2.toNatClampNeg))))))))) : aBM d 96 Q 24 [some (.ref 1000), some (.int a1), some (.int a2), none] [] S := aM_bl h
set_option maxRecDepth 100000 in
theorem bM_spent_47 {d : Nat} {Q : Value → aS → Prop} {a1 : Int32} {a3 : Int32} {S : aS} (h : vp_in (2 : Int32) 8 ∧ ((((ga S 1002 (2 : Int32).toNatClampNeg) ≤ a3 → (aWM d 77 [.ref 1000] S (fun v1 S2 => aV v1 (aBM d 96 Q 14 [some (.ref 1000), some (.int (a1 + (1 : Int32))), none, none] [] S2)))) ∧ (¬ (ga S 1002 (2 : Int32).toNatClampNeg) ≤ a3 → (vp_in a3 4 ∧ (aWM d 58 [.ref 1000, .int (ga S 1037 a3.toNatClampNeg)] S (fun v3 S4 => aV v3 (aBM d 96 Q 47 [some (.ref 1000), some (.int a1), none, some (.int (a3 + (1 : Int32)))] [] S4)))))))) : aBM d 96 Q 47 [some (.ref 1000), some (.int a1), none, some (.int a3)] [] S := aM_bl h
set_option maxRecDepth 100000 in
/-- getsBy(IIIII)I -/
theorem mM_getsBy {d : Nat} {Q : Value → aS → Prop} {p0 : Int32} {p1 : Int32} {p2 : Int32} {p3 : Int32} {p4 : Int32} {S : aS} (h : ((¬ p3 = (1 : Int32) → ((¬ p4 = (1 : Int32) → (Q (.int p2) S)) ∧ (p4 = (1 : Int32) → (Q (.int (0 : Int32)) S)))) ∧ (p3 = (1 : Int32) → ((¬ p4 = (1 : Int32) → (Q (.int p0) S)) ∧ (p4 = (1 : Int32) → (Q (.int p1) S)))))) : aWM (d + 1) 97 [.int p0, .int p1, .int p2, .int p3, .int p4] S Q := aW_in rfl (aP_at h)
set_option maxRecDepth 100000 in
/-- rests(IIII)I -/
theorem mM_rests {d : Nat} {Q : Value → aS → Prop} {p0 : Int32} {p1 : Int32} {p2 : Int32} {p3 : Int32} {S : aS} (h : aWM d 1 [.int p0, .int (0 : Int32), .int (9 : Int32)] S (fun v1 S2 => aI v1 (fun x3 => ((x3 = 0 → ((¬ (gi (si S2 1000 0 (1 : Int32)) 1000 0) = (1 : Int32) → (aBM d 98 Q 33 [some (.ref 1000), some (.int p0), some (.int p1), some (.int p2), some (.int p3), some (.int (0 : Int32)), some (.int (0 : Int32)), none, none] [] (si S2 1000 0 (1 : Int32)))) ∧ ((gi (si S2 1000 0 (1 : Int32)) 1000 0) = (1 : Int32) → (Q (.int (0 : Int32)) (si S2 1000 0 (1 : Int32)))))) ∧ (¬ x3 = 0 → (aWM d 1 [.int p1, .int (0 : Int32), .int (9 : Int32)] S2 (fun v4 S5 => aI v4 (fun x6 => ((x6 = 0 → ((¬ (gi (si S5 1000 0 (1 : Int32)) 1000 0) = (1 : Int32) → (aBM d 98 Q 33 [some (.ref 1000), some (.int p0), some (.int p1), some (.int p2), some (.int p3), some (.int (0 : Int32)), some (.int (0 : Int32)), none, none] [] (si S5 1000 0 (1 : Int32)))) ∧ ((gi (si S5 1000 0 (1 : Int32)) 1000 0) = (1 : Int32) → (Q (.int (0 : Int32)) (si S5 1000 0 (1 : Int32)))))) ∧ (¬ x6 = 0 → (aWM d 1 [.int p2, .int (0 : Int32), .int (9 : Int32)] S5 (fun v7 S8 => aI v7 (fun x9 => ((x9 = 0 → ((¬ (gi (si S8 1000 0 (1 : Int32)) 1000 0) = (1 : Int32) → (aBM d 98 Q 33 [some (.ref 1000), some (.int p0), some (.int p1), some (.int p2), some (.int p3), some (.int (0 : Int32)), some (.int (0 : Int32)), none, none] [] (si S8 1000 0 (1 : Int32)))) ∧ ((gi (si S8 1000 0 (1 : Int32)) 1000 0) = (1 : Int32) → (Q (.int (0 : Int32)) (si S8 1000 0 (1 : Int32)))))) ∧ (¬ x9 = 0 → ((p3 < (-1 : Int32) → ((¬ (gi (si S8 1000 0 (1 : Int32)) 1000 0) = (1 : Int32) → (aBM d 98 Q 33 [some (.ref 1000), some (.int p0), some (.int p1), some (.int p2), some (.int p3), some (.int (0 : Int32)), some (.int (0 : Int32)), none, none] [] (si S8 1000 0 (1 : Int32)))) ∧ ((gi (si S8 1000 0 (1 : Int32)) 1000 0) = (1 : Int32) → (Q (.int (0 : Int32)) (si S8 1000 0 (1 : Int32)))))) ∧ (¬ p3 < (-1 : Int32) → ((¬ (gi (si S8 1000 0 (0 : Int32)) 1000 0) = (1 : Int32) → (aBM d 98 Q 33 [some (.ref 1000), some (.int p0), some (.int p1), some (.int p2), some (.int p3), some (.int (0 : Int32)), some (.int (0 : Int32)), none, none] [] (si S8 1000 0 (0 : Int32)))) ∧ ((gi (si S8 1000 0 (0 : Int32)) 1000 0) = (1 : Int32) → (Q (.int (0 : Int32)) (si S8 1000 0 (0 : Int32)))))))))))))))))))))) : aWM (d + 1) 98 [.ref 1000, .int p0, .int p1, .int p2, .int p3] S Q := aW_in rfl (aP_at h)
set_option maxRecDepth 100000 in
theorem bM_rests_33 {d : Nat} {Q : Value → aS → Prop} {a1 : Int32} {a2 : Int32} {a3 : Int32} {a4 : Int32} {a5 : Int32} {a6 : Int32} {S : aS} (h : (((4 : Int32) ≤ a6 → ((¬ a4 = (-1 : Int32) → ((¬ a4 = (-1 : Int32) → (Q (.int (0 : Int32)) (si S 1000 0 (1 : Int32)))) ∧ (a4 = (-1 : Int32) → (Q (.int a5) (si S 1000 0 (1 : Int32)))))) ∧ (a4 = (-1 : Int32) → ((¬ a4 = (-1 : Int32) → (Q (.int (0 : Int32)) (si S 1000 0 (0 : Int32)))) ∧ (a4 = (-1 : Int32) → (Q (.int a5) (si S 1000 0 (0 : Int32)))))))) ∧ (¬ (4 : Int32) ≤ a6 → (¬ (2 : Int32) = 0 ∧ (¬ (2 : Int32) = 0 ∧ (aWM d 97 [.int a1, .int a2, .int a3, .int ((1 : Int32) - (a6 / (2 : Int32))), .int (a6 - a6 / (2 : Int32) * (2 : Int32))] S (fun v1 S2 => aI v1 (fun x3 => aWM d 97 [.int a1, .int a2, .int a3, .int (a6 / (2 : Int32)), .int (a6 - a6 / (2 : Int32) * (2 : Int32))] S2 (fun v4 S5 => aI v4 (fun x6 => ((x6 < x3 → (aBM d 98 Q 33 [some (.ref 1000), some (.int a1), some (.int a2), some (.int a3), some (.int a4), some (.int a5), some (.int (a6 + (1 : Int32))), none, none] [] S5)) ∧ (¬ x6 < x3 → (aWM d 97 [.int a1, .int a2, .int a3, .int ((1 : Int32) - (a6 - a6 / (2 : Int32) * (2 : Int32))), .int (a6 / (2 : Int32))] S5 (fun v7 S8 => aI v7 (fun x9 => aWM d 97 [.int a1, .int a2, .int a3, .int (a6 - a6 / (2 : Int32) * (2 : Int32)), .int (a6 / (2 : Int32))] S8 (fun v10 S11 => aI v10 (fun x12 => ((x9 ≤ x12 → ((¬ a5 = a4 → (aBM d 98 Q 33 [some (.ref 1000), some (.int a1), some (.int a2), some (.int a3), some (.int a4), some (.int (a5 + (1 : Int32))), some (.int (a6 + (1 : Int32))), none, none] [] S11)) ∧ (a5 = a4 → (Q (.int a6) S11)))) ∧ (¬ x9 ≤ x12 → (aBM d 98 Q 33 [some (.ref 1000), some (.int a1), some (.int a2), some (.int a3), some (.int a4), some (.int a5), some (.int (a6 + (1 : Int32))), none, none] [] S11)))))))))))))))))))) : aBM d 98 Q 33 [some (.ref 1000), some (.int a1), some (.int a2), some (.int a3), some (.int a4), some (.int a5), some (.int a6), none, none] [] S := aM_bl h
set_option maxRecDepth 100000 in
/-- draws(I)I -/
theorem mM_draws {d : Nat} {Q : Value → aS → Prop} {p0 : Int32} {S : aS} (h : ¬ (2147483648 : Int64) = 0 ∧ (¬ (65536 : Int64) = 0 ∧ (¬ p0.toInt64 = 0 ∧ (Q (.int ((((gl (sl S 1000 62 ((((gl S 1000 62) * (1103515245 : Int64)) + (12345 : Int64)) - (((gl S 1000 62) * (1103515245 : Int64)) + (12345 : Int64)) / (2147483648 : Int64) * (2147483648 : Int64))) 1000 62) / (65536 : Int64)) - ((gl (sl S 1000 62 ((((gl S 1000 62) * (1103515245 : Int64)) + (12345 : Int64)) - (((gl S 1000 62) * (1103515245 : Int64)) + (12345 : Int64)) / (2147483648 : Int64) * (2147483648 : Int64))) 1000 62) / (65536 : Int64)) / p0.toInt64 * p0.toInt64).toInt32)) (sl S 1000 62 ((((gl S 1000 62) * (1103515245 : Int64)) + (12345 : Int64)) - (((gl S 1000 62) * (1103515245 : Int64)) + (12345 : Int64)) / (2147483648 : Int64) * (2147483648 : Int64))))))) : aWM (d + 1) 99 [.ref 1000, .int p0] S Q := aW_in rfl (aP_at h)
set_option maxRecDepth 100000 in
/-- livesWord()Z -/
theorem mM_livesWord {d : Nat} {Q : Value → aS → Prop}  {S : aS} (h : vp_in (1 : Int32) 60 ∧ (vp_in (0 : Int32) 60 ∧ (vp_in (1 : Int32) 60 ∧ (aWM d 44 [.ref 1000, .int (ga S 1032 (0 : Int32).toNatClampNeg), .int (ga S 1032 (1 : Int32).toNatClampNeg)] S (fun v1 S2 => aI v1 (fun x3 => vp_in (1 : Int32) 60 ∧ (aWM d 46 [.ref 1000, .int (ga S2 1032 (1 : Int32).toNatClampNeg)] S2 (fun v4 S5 => aI v4 (fun x6 => aWM d 48 [.ref 1000, .int (ga S 1032 (1 : Int32).toNatClampNeg), .int x3, .int x6] S5 (fun v7 S8 => aI v7 (fun x9 => ((¬ x9 = 0 → (aWM d 99 [.ref 1000, .int x9] S8 (fun v10 S11 => aI v10 (fun x12 => vp_in (0 : Int32) 24 ∧ (vp_in (1 : Int32) 60 ∧ (((¬ (ga S11 1006 (0 : Int32).toNatClampNeg) = (ga S11 1032 (1 : Int32).toNatClampNeg) → (aBM d 100 Q 61 [some (.ref 1000), none, some (.int x12), some (.int (0 : Int32)), some (.int (0 : Int32))] [] S11)) ∧ ((ga S11 1006 (0 : Int32).toNatClampNeg) = (ga S11 1032 (1 : Int32).toNatClampNeg) → (aWM d 47 [.ref 1000, .int (0 : Int32)] S11 (fun v13 S14 => aI v13 (fun x15 => aBM d 100 Q 61 [some (.ref 1000), none, some (.int x12), some (.int (0 : Int32)), some (.int x15)] [] S14))))))))))) ∧ (x9 = 0 → (vp_in (3 : Int32) 60 ∧ ((((ga S8 1032 (3 : Int32).toNatClampNeg) ≤ 0 → (((0 : Int32) = 0 ∨ (0 : Int32) = 1) ∧ Q (.int (0 : Int32)) S8)) ∧ (¬ (ga S8 1032 (3 : Int32).toNatClampNeg) ≤ 0 → (vp_in (3 : Int32) 60 ∧ (aWM d 59 [.ref 1000, .int ((ga S8 1032 (3 : Int32).toNatClampNeg) - (1 : Int32))] S8 (fun v16 S17 => aV v16 (((0 : Int32) = 0 ∨ (0 : Int32) = 1) ∧ Q (.int (0 : Int32)) S17))))))))))))))))))))) : aWM (d + 1) 100 [.ref 1000] S Q := aW_in rfl (aP_at h)
set_option maxRecDepth 100000 in
theorem bM_livesWord_61 {d : Nat} {Q : Value → aS → Prop} {a2 : Int32} {a3 : Int32} {a4 : Int32} {S : aS} (h : ((a2 < a4 → (aWM d 58 [.ref 1000, .int a3] S (fun v1 S2 => aV v1 (vp_in (1 : Int32) 60 ∧ (((¬ (ga S2 1032 (1 : Int32).toNatClampNeg) = 0 → (((0 : Int32) = 0 ∨ (0 : Int32) = 1) ∧ Q (.int (0 : Int32)) S2)) ∧ ((ga S2 1032 (1 : Int32).toNatClampNeg) = 0 → (((1 : Int32) = 0 ∨ (1 : Int32) = 1) ∧ Q (.int (1 : Int32)) S2)))))))) ∧ (¬ a2 < a4 → (vp_in (a3 + (1 : Int32)) 24 ∧ (vp_in (1 : Int32) 60 ∧ (((¬ (ga S 1006 (a3 + (1 : Int32)).toNatClampNeg) = (ga S 1032 (1 : Int32).toNatClampNeg) → (aBM d 100 Q 61 [some (.ref 1000), none, some (.int a2), some (.int (a3 + (1 : Int32))), some (.int (a4 + (0 : Int32)))] [] S)) ∧ ((ga S 1006 (a3 + (1 : Int32)).toNatClampNeg) = (ga S 1032 (1 : Int32).toNatClampNeg) → (aWM d 47 [.ref 1000, .int (a3 + (1 : Int32))] S (fun v3 S4 => aI v3 (fun x5 => aBM d 100 Q 61 [some (.ref 1000), none, some (.int a2), some (.int (a3 + (1 : Int32))), some (.int (a4 + x5))] [] S4))))))))))) : aBM d 100 Q 61 [some (.ref 1000), none, some (.int a2), some (.int a3), some (.int a4)] [] S := aM_bl h
set_option maxRecDepth 100000 in
/-- generations(III)I -/
theorem mM_generations {d : Nat} {Q : Value → aS → Prop} {p0 : Int32} {p1 : Int32} {p2 : Int32} {S : aS} (h : aWM d 1 [.int p0, .int (0 : Int32), .int (9999 : Int32)] (si S 1000 0 (0 : Int32)) (fun v1 S2 => aI v1 (fun x3 => ((x3 = 0 → (Q (.int (-1 : Int32)) S2)) ∧ (¬ x3 = 0 → (aWM d 1 [.int p1, .int (1 : Int32), .int (99 : Int32)] S2 (fun v4 S5 => aI v4 (fun x6 => ((x6 = 0 → (Q (.int (-1 : Int32)) S5)) ∧ (¬ x6 = 0 → (aWM d 1 [.int p2, .int (0 : Int32), .int (2 : Int32)] S5 (fun v7 S8 => aI v7 (fun x9 => ((¬ x9 = 0 → (aWM d 35 [.ref 1032, .int (0 : Int32), .ref 1033, .int (0 : Int32)] (sl S8 1000 62 p0.toInt64) (fun v10 S11 => aV v10 (aBM d 101 Q 35 [some (.ref 1000), none, some (.int p1), some (.int p2), some (.int (0 : Int32)), some (.int (0 : Int32)), none] [] S11)))) ∧ (x9 = 0 → (Q (.int (-1 : Int32)) S8)))))))))))))))) : aWM (d + 1) 101 [.ref 1000, .int p0, .int p1, .int p2] S Q := aW_in rfl (aP_at h)
set_option maxRecDepth 100000 in
theorem bM_generations_35 {d : Nat} {Q : Value → aS → Prop} {a2 : Int32} {a3 : Int32} {a4 : Int32} {a5 : Int32} {S : aS} (h : ((a2 ≤ a5 → (vp_in (2 : Int32) 60 ∧ (aWM d 68 [.ref 1000] S (fun v1 S2 => aI v1 (fun x3 => aWM d 67 [.ref 1000, .int x3] S2 (fun v4 S5 => aI v4 (fun x6 => aWM d 35 [.ref 1033, .int (0 : Int32), .ref 1032, .int (0 : Int32)] S5 (fun v7 S8 => aV v7 (((¬ a3 = 0 → ((¬ a3 = (1 : Int32) → (Q (.int x6) S8)) ∧ (a3 = (1 : Int32) → (vp_in (2 : Int32) 60 ∧ (Q (.int ((ga S 1032 (2 : Int32).toNatClampNeg) - (ga S8 1032 (2 : Int32).toNatClampNeg))) S8))))) ∧ (a3 = 0 → (Q (.int a4) S8)))))))))))) ∧ (¬ a2 ≤ a5 → (aWM d 100 [.ref 1000] S (fun v9 S10 => aI v9 (fun x11 => ((x11 = 0 → (aBM d 101 Q 35 [some (.ref 1000), none, some (.int a2), some (.int a3), some (.int (a4 + (0 : Int32))), some (.int (a5 + (1 : Int32))), none] [] S10)) ∧ (¬ x11 = 0 → (aBM d 101 Q 35 [some (.ref 1000), none, some (.int a2), some (.int a3), some (.int (a4 + (1 : Int32))), some (.int (a5 + (1 : Int32))), none] [] S10))))))))) : aBM d 101 Q 35 [some (.ref 1000), none, some (.int a2), some (.int a3), some (.int a4), some (.int a5), none] [] S := aM_bl h
set_option maxRecDepth 100000 in
/-- mark(IZ)Z -/
theorem mM_mark {d : Nat} {Q : Value → aS → Prop} {p0 : Int32} {p1 : Int32} {S : aS} (h : aWM d 1 [.int p0, .int (0 : Int32), .int (3 : Int32)] (si S 1000 0 (0 : Int32)) (fun v1 S2 => aI v1 (fun x3 => ((x3 = 0 → (((0 : Int32) = 0 ∨ (0 : Int32) = 1) ∧ Q (.int (0 : Int32)) S2)) ∧ (¬ x3 = 0 → ((p1 = 0 → (aBM d 102 Q 17 [some (.ref 1000), some (.int p0), some (.int p1), none, none] [] S2)) ∧ (¬ p1 = 0 → (vp_in p0 4 ∧ (((¬ (ga S2 1036 p0.toNatClampNeg) = 0 → (aBM d 102 Q 17 [some (.ref 1000), some (.int p0), some (.int p1), none, none] [] S2)) ∧ ((ga S2 1036 p0.toNatClampNeg) = 0 → (((0 : Int32) = 0 ∨ (0 : Int32) = 1) ∧ Q (.int (0 : Int32)) S2)))))))))))) : aWM (d + 1) 102 [.ref 1000, .int p0, .int p1] S Q := aW_in rfl (aP_at h)
set_option maxRecDepth 100000 in
theorem bM_mark_17 {d : Nat} {Q : Value → aS → Prop} {a1 : Int32} {a2 : Int32} {S : aS} (h : vp_in a1 4 ∧ (((a2 = 0 → ((a2 = 0 → (aBM d 102 Q 37 [some (.ref 1000), some (.int a1), some (.int a2), some (.int (0 : Int32)), none] [.int ((1 : Int32) + a1)] (sa S 1036 a1.toNatClampNeg (vp_nar .boolean (1 : Int32))))) ∧ (¬ a2 = 0 → (aBM d 102 Q 37 [some (.ref 1000), some (.int a1), some (.int a2), some (.int (0 : Int32)), none] [.int (0 : Int32)] (sa S 1036 a1.toNatClampNeg (vp_nar .boolean (1 : Int32))))))) ∧ (¬ a2 = 0 → ((a2 = 0 → (aBM d 102 Q 37 [some (.ref 1000), some (.int a1), some (.int a2), some (.int ((1 : Int32) + a1)), none] [.int ((1 : Int32) + a1)] (sa S 1036 a1.toNatClampNeg (vp_nar .boolean (1 : Int32))))) ∧ (¬ a2 = 0 → (aBM d 102 Q 37 [some (.ref 1000), some (.int a1), some (.int a2), some (.int ((1 : Int32) + a1)), none] [.int (0 : Int32)] (sa S 1036 a1.toNatClampNeg (vp_nar .boolean (1 : Int32)))))))))) : aBM d 102 Q 17 [some (.ref 1000), some (.int a1), some (.int a2), none, none] [] S := aM_bl h
set_option maxRecDepth 100000 in
theorem bM_mark_37 {d : Nat} {Q : Value → aS → Prop} {a1 : Int32} {a2 : Int32} {a3 : Int32} {s0 : Int32} {S : aS} (h : aWM d 37 [.ref 1000, .int a3, .int s0] S (fun v1 S2 => aV v1 (aWM d 38 [.ref 1000, .int a3, .int s0] S2 (fun v3 S4 => aV v3 (((a2 = 0 → (aWM d 35 [.ref 1032, .int (0 : Int32), .ref 1034, .int ((60 : Int32) * a1)] S4 (fun v5 S6 => aV v5 (((1 : Int32) = 0 ∨ (1 : Int32) = 1) ∧ Q (.int (1 : Int32)) S6)))) ∧ (¬ a2 = 0 → (aWM d 35 [.ref 1034, .int ((60 : Int32) * a1), .ref 1032, .int (0 : Int32)] S4 (fun v7 S8 => aV v7 (((1 : Int32) = 0 ∨ (1 : Int32) = 1) ∧ Q (.int (1 : Int32)) (si S8 1000 50 (0 : Int32)))))))))))) : aBM d 102 Q 37 [some (.ref 1000), some (.int a1), some (.int a2), some (.int a3), none] [.int s0] S := aM_bl h
set_option maxRecDepth 100000 in
/-- allLeft()I -/
theorem mM_allLeft {d : Nat} {Q : Value → aS → Prop}  {S : aS} (h : aBM d 103 Q 4 [some (.ref 1000), some (.int (0 : Int32)), some (.int (0 : Int32))] [] S) : aWM (d + 1) 103 [.ref 1000] S Q := aW_in rfl (aP_at h)
set_option maxRecDepth 100000 in
theorem bM_allLeft_4 {d : Nat} {Q : Value → aS → Prop} {a1 : Int32} {a2 : Int32} {S : aS} (h : vp_in (1 : Int32) 8 ∧ ((((ga S 1002 (1 : Int32).toNatClampNeg) ≤ a2 → (Q (.int a1) S)) ∧ (¬ (ga S 1002 (1 : Int32).toNatClampNeg) ≤ a2 → (vp_in ((8 : Int32) + a2) 60 ∧ (aBM d 103 Q 4 [some (.ref 1000), some (.int (a1 + (ga S 1032 ((8 : Int32) + a2).toNatClampNeg))), some (.int (a2 + (1 : Int32)))] [] S)))))) : aBM d 103 Q 4 [some (.ref 1000), some (.int a1), some (.int a2)] [] S := aM_bl h
set_option maxRecDepth 100000 in
/-- count(I)I -/
theorem mM_count {d : Nat} {Q : Value → aS → Prop} {p0 : Int32} {S : aS} (h : aWM d 1 [.int p0, .int (0 : Int32), .int (13 : Int32)] (si S 1000 0 (0 : Int32)) (fun v1 S2 => aI v1 (fun x3 => ((¬ x3 = 0 → (((3 : Int32) ≤ p0 → (((6 : Int32) ≤ p0 → (((9 : Int32) ≤ p0 → (((12 : Int32) ≤ p0 → ((¬ p0 = (12 : Int32) → (Q (.int (gi S2 1000 1)) S2)) ∧ (p0 = (12 : Int32) → (Q (.int (gi S2 1000 50)) S2)))) ∧ (¬ (12 : Int32) ≤ p0 → ((¬ p0 = (9 : Int32) → ((¬ p0 = (10 : Int32) → (vp_in (0 : Int32) 5 ∧ (Q (.int (ga S2 1030 (0 : Int32).toNatClampNeg)) S2))) ∧ (p0 = (10 : Int32) → (vp_in (0 : Int32) 6 ∧ (Q (.int (ga S2 1027 (0 : Int32).toNatClampNeg)) S2))))) ∧ (p0 = (9 : Int32) → (vp_in (3 : Int32) 8 ∧ (Q (.int (ga S2 1002 (3 : Int32).toNatClampNeg)) S2))))))) ∧ (¬ (9 : Int32) ≤ p0 → ((¬ p0 = (6 : Int32) → ((¬ p0 = (7 : Int32) → (aWM d 103 [.ref 1000] S2 (fun v4 S5 => aI v4 (fun x6 => Q (.int x6) S5)))) ∧ (p0 = (7 : Int32) → (vp_in (2 : Int32) 60 ∧ (Q (.int (ga S2 1032 (2 : Int32).toNatClampNeg)) S2))))) ∧ (p0 = (6 : Int32) → (vp_in (3 : Int32) 60 ∧ (Q (.int (ga S2 1032 (3 : Int32).toNatClampNeg)) S2))))))) ∧ (¬ (6 : Int32) ≤ p0 → ((¬ p0 = (3 : Int32) → ((¬ p0 = (4 : Int32) → (vp_in (0 : Int32) 60 ∧ (vp_in (1 : Int32) 60 ∧ (aWM d 44 [.ref 1000, .int (ga S2 1032 (0 : Int32).toNatClampNeg), .int (ga S2 1032 (1 : Int32).toNatClampNeg)] S2 (fun v7 S8 => aI v7 (fun x9 => Q (.int x9) S8)))))) ∧ (p0 = (4 : Int32) → (vp_in (1 : Int32) 60 ∧ (Q (.int (ga S2 1032 (1 : Int32).toNatClampNeg)) S2))))) ∧ (p0 = (3 : Int32) → (vp_in (0 : Int32) 60 ∧ (Q (.int (ga S2 1032 (0 : Int32).toNatClampNeg)) S2))))))) ∧ (¬ (3 : Int32) ≤ p0 → (vp_in p0 8 ∧ (Q (.int (ga S2 1002 p0.toNatClampNeg)) S2))))) ∧ (x3 = 0 → (Q (.int (-1 : Int32)) S2)))))) : aWM (d + 1) 104 [.ref 1000, .int p0] S Q := aW_in rfl (aP_at h)
end
