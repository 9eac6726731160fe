section
-- ===== PART A: goes FIRST, ahead of the names: the tables' words, and 'selects' of the private methods out of them =====
/-- a private method of a class that the tables say can be made, by its rows of tables_1 -/
def lw_okq (q : MethodName × Nat) : Prop := (q.1.cls ≠ "java/lang/invoke/MethodHandle" ∧ q.1.cls ≠ "java/lang/invoke/VarHandle") ∧ Cond.instantiable q.1.cls q.2 ∈ tables_1 ∧ Cond.privateMethod q.1 ∈ tables_1 ∧ Cond.instanceMethod q.1 ∈ tables_1
theorem lw_p0 : lw_okq (⟨"DialogueGames$TextReader", "take", "(I)V"⟩, 6) := ⟨⟨by decide +kernel, by decide +kernel⟩, List.mem_of_getElem? (i := 81) (by decide +kernel), List.mem_of_getElem? (i := 344) (by decide +kernel), List.mem_of_getElem? (i := 345) (by decide +kernel)⟩
theorem lw_p1 : lw_okq (⟨"DialogueGames$TextReader", "pushOperand", "(I)V"⟩, 6) := ⟨⟨by decide +kernel, by decide +kernel⟩, List.mem_of_getElem? (i := 81) (by decide +kernel), List.mem_of_getElem? (i := 348) (by decide +kernel), List.mem_of_getElem? (i := 349) (by decide +kernel)⟩
theorem lw_p2 : lw_okq (⟨"DialogueGames$TextReader", "pushOperator", "(I)V"⟩, 6) := ⟨⟨by decide +kernel, by decide +kernel⟩, List.mem_of_getElem? (i := 81) (by decide +kernel), List.mem_of_getElem? (i := 352) (by decide +kernel), List.mem_of_getElem? (i := 353) (by decide +kernel)⟩
theorem lw_p3 : lw_okq (⟨"DialogueGames$TextReader", "joinUpTo", "(I)V"⟩, 6) := ⟨⟨by decide +kernel, by decide +kernel⟩, List.mem_of_getElem? (i := 81) (by decide +kernel), List.mem_of_getElem? (i := 356) (by decide +kernel), List.mem_of_getElem? (i := 357) (by decide +kernel)⟩
theorem lw_p4 : lw_okq (⟨"DialogueGames$TextReader", "join", "(I)V"⟩, 6) := ⟨⟨by decide +kernel, by decide +kernel⟩, List.mem_of_getElem? (i := 81) (by decide +kernel), List.mem_of_getElem? (i := 360) (by decide +kernel), List.mem_of_getElem? (i := 361) (by decide +kernel)⟩
theorem lw_p5 : lw_okq (⟨"DialogueGames$Formulas", "find", "(III)I"⟩, 7) := ⟨⟨by decide +kernel, by decide +kernel⟩, List.mem_of_getElem? (i := 27) (by decide +kernel), List.mem_of_getElem? (i := 372) (by decide +kernel), List.mem_of_getElem? (i := 373) (by decide +kernel)⟩
theorem lw_p6 : lw_okq (⟨"DialogueGames$Transformer", "translate", "(II)I"⟩, 2) := ⟨⟨by decide +kernel, by decide +kernel⟩, List.mem_of_getElem? (i := 106) (by decide +kernel), List.mem_of_getElem? (i := 521) (by decide +kernel), List.mem_of_getElem? (i := 522) (by decide +kernel)⟩
theorem lw_p7 : lw_okq (⟨"DialogueGames$Transformer", "imageOf", "(II)I"⟩, 2) := ⟨⟨by decide +kernel, by decide +kernel⟩, List.mem_of_getElem? (i := 106) (by decide +kernel), List.mem_of_getElem? (i := 526) (by decide +kernel), List.mem_of_getElem? (i := 527) (by decide +kernel)⟩
theorem lw_p8 : lw_okq (⟨"DialogueGames", "rankIn", "(II)I"⟩, 7) := ⟨⟨by decide +kernel, by decide +kernel⟩, List.mem_of_getElem? (i := 19) (by decide +kernel), List.mem_of_getElem? (i := 538) (by decide +kernel), List.mem_of_getElem? (i := 539) (by decide +kernel)⟩
theorem lw_p9 : lw_okq (⟨"DialogueGames$Search", "clear", "(I)V"⟩, 12) := ⟨⟨by decide +kernel, by decide +kernel⟩, List.mem_of_getElem? (i := 200) (by decide +kernel), List.mem_of_getElem? (i := 546) (by decide +kernel), List.mem_of_getElem? (i := 547) (by decide +kernel)⟩
theorem lw_p10 : lw_okq (⟨"DialogueGames$Search", "numberOf", "(JJ)I"⟩, 12) := ⟨⟨by decide +kernel, by decide +kernel⟩, List.mem_of_getElem? (i := 200) (by decide +kernel), List.mem_of_getElem? (i := 566) (by decide +kernel), List.mem_of_getElem? (i := 567) (by decide +kernel)⟩
theorem lw_p11 : lw_okq (⟨"DialogueGames$Search", "placeOf", "(JJ)I"⟩, 12) := ⟨⟨by decide +kernel, by decide +kernel⟩, List.mem_of_getElem? (i := 200) (by decide +kernel), List.mem_of_getElem? (i := 570) (by decide +kernel), List.mem_of_getElem? (i := 571) (by decide +kernel)⟩
theorem lw_p12 : lw_okq (⟨"DialogueGames$Board", "canClaim", "(I)Z"⟩, 9) := ⟨⟨by decide +kernel, by decide +kernel⟩, List.mem_of_getElem? (i := 125) (by decide +kernel), List.mem_of_getElem? (i := 584) (by decide +kernel), List.mem_of_getElem? (i := 585) (by decide +kernel)⟩
theorem lw_p13 : lw_okq (⟨"DialogueGames$Board", "addMove", "(II)V"⟩, 9) := ⟨⟨by decide +kernel, by decide +kernel⟩, List.mem_of_getElem? (i := 125) (by decide +kernel), List.mem_of_getElem? (i := 588) (by decide +kernel), List.mem_of_getElem? (i := 589) (by decide +kernel)⟩
theorem lw_p14 : lw_okq (⟨"DialogueGames$Board", "addAttacks", "(I)V"⟩, 9) := ⟨⟨by decide +kernel, by decide +kernel⟩, List.mem_of_getElem? (i := 125) (by decide +kernel), List.mem_of_getElem? (i := 592) (by decide +kernel), List.mem_of_getElem? (i := 593) (by decide +kernel)⟩
theorem lw_p15 : lw_okq (⟨"DialogueGames$Search", "linkMove", "(II)V"⟩, 12) := ⟨⟨by decide +kernel, by decide +kernel⟩, List.mem_of_getElem? (i := 200) (by decide +kernel), List.mem_of_getElem? (i := 596) (by decide +kernel), List.mem_of_getElem? (i := 597) (by decide +kernel)⟩
def lw_privs_1 : List (MethodName × Nat) := [(⟨"DialogueGames$TextReader", "take", "(I)V"⟩, 6), (⟨"DialogueGames$TextReader", "pushOperand", "(I)V"⟩, 6), (⟨"DialogueGames$TextReader", "pushOperator", "(I)V"⟩, 6), (⟨"DialogueGames$TextReader", "joinUpTo", "(I)V"⟩, 6), (⟨"DialogueGames$TextReader", "join", "(I)V"⟩, 6), (⟨"DialogueGames$Formulas", "find", "(III)I"⟩, 7), (⟨"DialogueGames$Transformer", "translate", "(II)I"⟩, 2), (⟨"DialogueGames$Transformer", "imageOf", "(II)I"⟩, 2), (⟨"DialogueGames", "rankIn", "(II)I"⟩, 7), (⟨"DialogueGames$Search", "clear", "(I)V"⟩, 12), (⟨"DialogueGames$Search", "numberOf", "(JJ)I"⟩, 12), (⟨"DialogueGames$Search", "placeOf", "(JJ)I"⟩, 12), (⟨"DialogueGames$Board", "canClaim", "(I)Z"⟩, 9), (⟨"DialogueGames$Board", "addMove", "(II)V"⟩, 9), (⟨"DialogueGames$Board", "addAttacks", "(I)V"⟩, 9), (⟨"DialogueGames$Search", "linkMove", "(II)V"⟩, 12)]
theorem lw_r1 : ∀ q ∈ lw_privs_1, lw_okq q := List.forall_mem_cons.mpr ⟨lw_p0, List.forall_mem_cons.mpr ⟨lw_p1, List.forall_mem_cons.mpr ⟨lw_p2, List.forall_mem_cons.mpr ⟨lw_p3, List.forall_mem_cons.mpr ⟨lw_p4, List.forall_mem_cons.mpr ⟨lw_p5, List.forall_mem_cons.mpr ⟨lw_p6, List.forall_mem_cons.mpr ⟨lw_p7, List.forall_mem_cons.mpr ⟨lw_p8, List.forall_mem_cons.mpr ⟨lw_p9, List.forall_mem_cons.mpr ⟨lw_p10, List.forall_mem_cons.mpr ⟨lw_p11, List.forall_mem_cons.mpr ⟨lw_p12, List.forall_mem_cons.mpr ⟨lw_p13, List.forall_mem_cons.mpr ⟨lw_p14, List.forall_mem_cons.mpr ⟨lw_p15, fun _ h => absurd h List.not_mem_nil⟩⟩⟩⟩⟩⟩⟩⟩⟩⟩⟩⟩⟩⟩⟩⟩
theorem lw_p16 : lw_okq (⟨"DialogueGames$Search", "addLink", "(I)V"⟩, 12) := ⟨⟨by decide +kernel, by decide +kernel⟩, List.mem_of_getElem? (i := 200) (by decide +kernel), List.mem_of_getElem? (i := 609) (by decide +kernel), List.mem_of_getElem? (i := 610) (by decide +kernel)⟩
theorem lw_p17 : lw_okq (⟨"DialogueGames$Board", "concede", "(I)V"⟩, 9) := ⟨⟨by decide +kernel, by decide +kernel⟩, List.mem_of_getElem? (i := 125) (by decide +kernel), List.mem_of_getElem? (i := 632) (by decide +kernel), List.mem_of_getElem? (i := 633) (by decide +kernel)⟩
theorem lw_p18 : lw_okq (⟨"DialogueGames$Search", "winsWithin", "(II)Z"⟩, 12) := ⟨⟨by decide +kernel, by decide +kernel⟩, List.mem_of_getElem? (i := 200) (by decide +kernel), List.mem_of_getElem? (i := 640) (by decide +kernel), List.mem_of_getElem? (i := 641) (by decide +kernel)⟩
theorem lw_p19 : lw_okq (⟨"DialogueGames$Search", "areBelow", "(III)Z"⟩, 12) := ⟨⟨by decide +kernel, by decide +kernel⟩, List.mem_of_getElem? (i := 200) (by decide +kernel), List.mem_of_getElem? (i := 646) (by decide +kernel), List.mem_of_getElem? (i := 647) (by decide +kernel)⟩
theorem lw_p20 : lw_okq (⟨"DialogueGames", "presentRank", "()I"⟩, 7) := ⟨⟨by decide +kernel, by decide +kernel⟩, List.mem_of_getElem? (i := 19) (by decide +kernel), List.mem_of_getElem? (i := 720) (by decide +kernel), List.mem_of_getElem? (i := 721) (by decide +kernel)⟩
theorem lw_p21 : lw_okq (⟨"DialogueGames", "longestAfter", "(I)I"⟩, 7) := ⟨⟨by decide +kernel, by decide +kernel⟩, List.mem_of_getElem? (i := 19) (by decide +kernel), List.mem_of_getElem? (i := 732) (by decide +kernel), List.mem_of_getElem? (i := 733) (by decide +kernel)⟩
theorem lw_p22 : lw_okq (⟨"DialogueGames", "rankAfter", "(II)I"⟩, 7) := ⟨⟨by decide +kernel, by decide +kernel⟩, List.mem_of_getElem? (i := 19) (by decide +kernel), List.mem_of_getElem? (i := 736) (by decide +kernel), List.mem_of_getElem? (i := 737) (by decide +kernel)⟩
theorem lw_p23 : lw_okq (⟨"DialogueGames", "slotAt", "(I)LDialogueGames$Slot;"⟩, 7) := ⟨⟨by decide +kernel, by decide +kernel⟩, List.mem_of_getElem? (i := 19) (by decide +kernel), List.mem_of_getElem? (i := 754) (by decide +kernel), List.mem_of_getElem? (i := 755) (by decide +kernel)⟩
theorem lw_p24 : lw_okq (⟨"DialogueGames", "playStored", "(LDialogueGames$Slot;)I"⟩, 7) := ⟨⟨by decide +kernel, by decide +kernel⟩, List.mem_of_getElem? (i := 19) (by decide +kernel), List.mem_of_getElem? (i := 838) (by decide +kernel), List.mem_of_getElem? (i := 839) (by decide +kernel)⟩
theorem lw_p25 : lw_okq (⟨"DialogueGamesModel", "readAll", "(Z)I"⟩, 35) := ⟨⟨by decide +kernel, by decide +kernel⟩, List.mem_of_getElem? (i := 842) (by decide +kernel), List.mem_of_getElem? (i := 977) (by decide +kernel), List.mem_of_getElem? (i := 978) (by decide +kernel)⟩
theorem lw_p26 : lw_okq (⟨"DialogueGamesModel", "readImplication", "()I"⟩, 35) := ⟨⟨by decide +kernel, by decide +kernel⟩, List.mem_of_getElem? (i := 842) (by decide +kernel), List.mem_of_getElem? (i := 981) (by decide +kernel), List.mem_of_getElem? (i := 982) (by decide +kernel)⟩
theorem lw_p27 : lw_okq (⟨"DialogueGamesModel", "readDisjunction", "()I"⟩, 35) := ⟨⟨by decide +kernel, by decide +kernel⟩, List.mem_of_getElem? (i := 842) (by decide +kernel), List.mem_of_getElem? (i := 985) (by decide +kernel), List.mem_of_getElem? (i := 986) (by decide +kernel)⟩
theorem lw_p28 : lw_okq (⟨"DialogueGamesModel", "readConjunction", "()I"⟩, 35) := ⟨⟨by decide +kernel, by decide +kernel⟩, List.mem_of_getElem? (i := 842) (by decide +kernel), List.mem_of_getElem? (i := 989) (by decide +kernel), List.mem_of_getElem? (i := 990) (by decide +kernel)⟩
theorem lw_p29 : lw_okq (⟨"DialogueGamesModel", "readSimple", "()I"⟩, 35) := ⟨⟨by decide +kernel, by decide +kernel⟩, List.mem_of_getElem? (i := 842) (by decide +kernel), List.mem_of_getElem? (i := 993) (by decide +kernel), List.mem_of_getElem? (i := 994) (by decide +kernel)⟩
theorem lw_p30 : lw_okq (⟨"DialogueGamesModel", "goes", "(C)Z"⟩, 35) := ⟨⟨by decide +kernel, by decide +kernel⟩, List.mem_of_getElem? (i := 842) (by decide +kernel), List.mem_of_getElem? (i := 997) (by decide +kernel), List.mem_of_getElem? (i := 998) (by decide +kernel)⟩
theorem lw_p31 : lw_okq (⟨"DialogueGamesModel", "made", "(III)I"⟩, 35) := ⟨⟨by decide +kernel, by decide +kernel⟩, List.mem_of_getElem? (i := 842) (by decide +kernel), List.mem_of_getElem? (i := 1001) (by decide +kernel), List.mem_of_getElem? (i := 1002) (by decide +kernel)⟩
def lw_privs_2 : List (MethodName × Nat) := [(⟨"DialogueGames$Search", "addLink", "(I)V"⟩, 12), (⟨"DialogueGames$Board", "concede", "(I)V"⟩, 9), (⟨"DialogueGames$Search", "winsWithin", "(II)Z"⟩, 12), (⟨"DialogueGames$Search", "areBelow", "(III)Z"⟩, 12), (⟨"DialogueGames", "presentRank", "()I"⟩, 7), (⟨"DialogueGames", "longestAfter", "(I)I"⟩, 7), (⟨"DialogueGames", "rankAfter", "(II)I"⟩, 7), (⟨"DialogueGames", "slotAt", "(I)LDialogueGames$Slot;"⟩, 7), (⟨"DialogueGames", "playStored", "(LDialogueGames$Slot;)I"⟩, 7), (⟨"DialogueGamesModel", "readAll", "(Z)I"⟩, 35), (⟨"DialogueGamesModel", "readImplication", "()I"⟩, 35), (⟨"DialogueGamesModel", "readDisjunction", "()I"⟩, 35), (⟨"DialogueGamesModel", "readConjunction", "()I"⟩, 35), (⟨"DialogueGamesModel", "readSimple", "()I"⟩, 35), (⟨"DialogueGamesModel", "goes", "(C)Z"⟩, 35), (⟨"DialogueGamesModel", "made", "(III)I"⟩, 35)]
theorem lw_r2 : ∀ q ∈ lw_privs_2, lw_okq q := List.forall_mem_cons.mpr ⟨lw_p16, List.forall_mem_cons.mpr ⟨lw_p17, List.forall_mem_cons.mpr ⟨lw_p18, List.forall_mem_cons.mpr ⟨lw_p19, List.forall_mem_cons.mpr ⟨lw_p20, List.forall_mem_cons.mpr ⟨lw_p21, List.forall_mem_cons.mpr ⟨lw_p22, List.forall_mem_cons.mpr ⟨lw_p23, List.forall_mem_cons.mpr ⟨lw_p24, List.forall_mem_cons.mpr ⟨lw_p25, List.forall_mem_cons.mpr ⟨lw_p26, List.forall_mem_cons.mpr ⟨lw_p27, List.forall_mem_cons.mpr ⟨lw_p28, List.forall_mem_cons.mpr ⟨lw_p29, List.forall_mem_cons.mpr ⟨lw_p30, List.forall_mem_cons.mpr ⟨lw_p31, fun _ h => absurd h List.not_mem_nil⟩⟩⟩⟩⟩⟩⟩⟩⟩⟩⟩⟩⟩⟩⟩⟩
theorem lw_p32 : lw_okq (⟨"DialogueGamesModel", "make", "(III)I"⟩, 35) := ⟨⟨by decide +kernel, by decide +kernel⟩, List.mem_of_getElem? (i := 842) (by decide +kernel), List.mem_of_getElem? (i := 1005) (by decide +kernel), List.mem_of_getElem? (i := 1006) (by decide +kernel)⟩
theorem lw_p33 : lw_okq (⟨"DialogueGamesModel", "settled", "(II)I"⟩, 35) := ⟨⟨by decide +kernel, by decide +kernel⟩, List.mem_of_getElem? (i := 842) (by decide +kernel), List.mem_of_getElem? (i := 1009) (by decide +kernel), List.mem_of_getElem? (i := 1010) (by decide +kernel)⟩
theorem lw_p34 : lw_okq (⟨"DialogueGamesModel", "isFormula", "(I)Z"⟩, 35) := ⟨⟨by decide +kernel, by decide +kernel⟩, List.mem_of_getElem? (i := 842) (by decide +kernel), List.mem_of_getElem? (i := 1017) (by decide +kernel), List.mem_of_getElem? (i := 1018) (by decide +kernel)⟩
theorem lw_p35 : lw_okq (⟨"DialogueGamesModel", "tableOf", "(I)I"⟩, 35) := ⟨⟨by decide +kernel, by decide +kernel⟩, List.mem_of_getElem? (i := 842) (by decide +kernel), List.mem_of_getElem? (i := 1047) (by decide +kernel), List.mem_of_getElem? (i := 1048) (by decide +kernel)⟩
theorem lw_p36 : lw_okq (⟨"DialogueGamesModel", "readWord", "(I)I"⟩, 35) := ⟨⟨by decide +kernel, by decide +kernel⟩, List.mem_of_getElem? (i := 842) (by decide +kernel), List.mem_of_getElem? (i := 1061) (by decide +kernel), List.mem_of_getElem? (i := 1062) (by decide +kernel)⟩
theorem lw_p37 : lw_okq (⟨"DialogueGamesModel", "transformed", "(II)I"⟩, 35) := ⟨⟨by decide +kernel, by decide +kernel⟩, List.mem_of_getElem? (i := 842) (by decide +kernel), List.mem_of_getElem? (i := 1068) (by decide +kernel), List.mem_of_getElem? (i := 1069) (by decide +kernel)⟩
theorem lw_p38 : lw_okq (⟨"DialogueGamesModel", "not", "(I)I"⟩, 35) := ⟨⟨by decide +kernel, by decide +kernel⟩, List.mem_of_getElem? (i := 842) (by decide +kernel), List.mem_of_getElem? (i := 1072) (by decide +kernel), List.mem_of_getElem? (i := 1073) (by decide +kernel)⟩
theorem lw_p39 : lw_okq (⟨"DialogueGamesModel", "translate", "(I)I"⟩, 35) := ⟨⟨by decide +kernel, by decide +kernel⟩, List.mem_of_getElem? (i := 842) (by decide +kernel), List.mem_of_getElem? (i := 1076) (by decide +kernel), List.mem_of_getElem? (i := 1077) (by decide +kernel)⟩
theorem lw_p40 : lw_okq (⟨"DialogueGamesModel", "translation", "(I)I"⟩, 35) := ⟨⟨by decide +kernel, by decide +kernel⟩, List.mem_of_getElem? (i := 842) (by decide +kernel), List.mem_of_getElem? (i := 1080) (by decide +kernel), List.mem_of_getElem? (i := 1081) (by decide +kernel)⟩
theorem lw_p41 : lw_okq (⟨"DialogueGamesModel", "rankOf", "(II)I"⟩, 35) := ⟨⟨by decide +kernel, by decide +kernel⟩, List.mem_of_getElem? (i := 842) (by decide +kernel), List.mem_of_getElem? (i := 1092) (by decide +kernel), List.mem_of_getElem? (i := 1093) (by decide +kernel)⟩
theorem lw_p42 : lw_okq (⟨"DialogueGamesModel", "meetAfter", "(I)Z"⟩, 35) := ⟨⟨by decide +kernel, by decide +kernel⟩, List.mem_of_getElem? (i := 842) (by decide +kernel), List.mem_of_getElem? (i := 1096) (by decide +kernel), List.mem_of_getElem? (i := 1097) (by decide +kernel)⟩
theorem lw_p43 : lw_okq (⟨"DialogueGamesModel", "attacksOn", "(I)I"⟩, 35) := ⟨⟨by decide +kernel, by decide +kernel⟩, List.mem_of_getElem? (i := 842) (by decide +kernel), List.mem_of_getElem? (i := 1100) (by decide +kernel), List.mem_of_getElem? (i := 1101) (by decide +kernel)⟩
theorem lw_p44 : lw_okq (⟨"DialogueGamesModel", "attack", "(II)V"⟩, 35) := ⟨⟨by decide +kernel, by decide +kernel⟩, List.mem_of_getElem? (i := 842) (by decide +kernel), List.mem_of_getElem? (i := 1104) (by decide +kernel), List.mem_of_getElem? (i := 1105) (by decide +kernel)⟩
theorem lw_p45 : lw_okq (⟨"DialogueGamesModel", "meet", "()V"⟩, 35) := ⟨⟨by decide +kernel, by decide +kernel⟩, List.mem_of_getElem? (i := 842) (by decide +kernel), List.mem_of_getElem? (i := 1108) (by decide +kernel), List.mem_of_getElem? (i := 1109) (by decide +kernel)⟩
theorem lw_p46 : lw_okq (⟨"DialogueGamesModel", "placeOf", "(JJ)I"⟩, 35) := ⟨⟨by decide +kernel, by decide +kernel⟩, List.mem_of_getElem? (i := 842) (by decide +kernel), List.mem_of_getElem? (i := 1112) (by decide +kernel), List.mem_of_getElem? (i := 1113) (by decide +kernel)⟩
theorem lw_p47 : lw_okq (⟨"DialogueGamesModel", "meetAll", "()Z"⟩, 35) := ⟨⟨by decide +kernel, by decide +kernel⟩, List.mem_of_getElem? (i := 842) (by decide +kernel), List.mem_of_getElem? (i := 1116) (by decide +kernel), List.mem_of_getElem? (i := 1117) (by decide +kernel)⟩
def lw_privs_3 : List (MethodName × Nat) := [(⟨"DialogueGamesModel", "make", "(III)I"⟩, 35), (⟨"DialogueGamesModel", "settled", "(II)I"⟩, 35), (⟨"DialogueGamesModel", "isFormula", "(I)Z"⟩, 35), (⟨"DialogueGamesModel", "tableOf", "(I)I"⟩, 35), (⟨"DialogueGamesModel", "readWord", "(I)I"⟩, 35), (⟨"DialogueGamesModel", "transformed", "(II)I"⟩, 35), (⟨"DialogueGamesModel", "not", "(I)I"⟩, 35), (⟨"DialogueGamesModel", "translate", "(I)I"⟩, 35), (⟨"DialogueGamesModel", "translation", "(I)I"⟩, 35), (⟨"DialogueGamesModel", "rankOf", "(II)I"⟩, 35), (⟨"DialogueGamesModel", "meetAfter", "(I)Z"⟩, 35), (⟨"DialogueGamesModel", "attacksOn", "(I)I"⟩, 35), (⟨"DialogueGamesModel", "attack", "(II)V"⟩, 35), (⟨"DialogueGamesModel", "meet", "()V"⟩, 35), (⟨"DialogueGamesModel", "placeOf", "(JJ)I"⟩, 35), (⟨"DialogueGamesModel", "meetAll", "()Z"⟩, 35)]
theorem lw_r3 : ∀ q ∈ lw_privs_3, lw_okq q := List.forall_mem_cons.mpr ⟨lw_p32, List.forall_mem_cons.mpr ⟨lw_p33, List.forall_mem_cons.mpr ⟨lw_p34, List.forall_mem_cons.mpr ⟨lw_p35, List.forall_mem_cons.mpr ⟨lw_p36, List.forall_mem_cons.mpr ⟨lw_p37, List.forall_mem_cons.mpr ⟨lw_p38, List.forall_mem_cons.mpr ⟨lw_p39, List.forall_mem_cons.mpr ⟨lw_p40, List.forall_mem_cons.mpr ⟨lw_p41, List.forall_mem_cons.mpr ⟨lw_p42, List.forall_mem_cons.mpr ⟨lw_p43, List.forall_mem_cons.mpr ⟨lw_p44, List.forall_mem_cons.mpr ⟨lw_p45, List.forall_mem_cons.mpr ⟨lw_p46, List.forall_mem_cons.mpr ⟨lw_p47, fun _ h => absurd h List.not_mem_nil⟩⟩⟩⟩⟩⟩⟩⟩⟩⟩⟩⟩⟩⟩⟩⟩
theorem lw_p48 : lw_okq (⟨"DialogueGamesModel", "stand", "(I)V"⟩, 35) := ⟨⟨by decide +kernel, by decide +kernel⟩, List.mem_of_getElem? (i := 842) (by decide +kernel), List.mem_of_getElem? (i := 1120) (by decide +kernel), List.mem_of_getElem? (i := 1121) (by decide +kernel)⟩
theorem lw_p49 : lw_okq (⟨"DialogueGamesModel", "countMoves", "()I"⟩, 35) := ⟨⟨by decide +kernel, by decide +kernel⟩, List.mem_of_getElem? (i := 842) (by decide +kernel), List.mem_of_getElem? (i := 1124) (by decide +kernel), List.mem_of_getElem? (i := 1125) (by decide +kernel)⟩
theorem lw_p50 : lw_okq (⟨"DialogueGamesModel", "findMove", "(I)I"⟩, 35) := ⟨⟨by decide +kernel, by decide +kernel⟩, List.mem_of_getElem? (i := 842) (by decide +kernel), List.mem_of_getElem? (i := 1128) (by decide +kernel), List.mem_of_getElem? (i := 1129) (by decide +kernel)⟩
theorem lw_p51 : lw_okq (⟨"DialogueGamesModel", "mayClaim", "(I)Z"⟩, 35) := ⟨⟨by decide +kernel, by decide +kernel⟩, List.mem_of_getElem? (i := 842) (by decide +kernel), List.mem_of_getElem? (i := 1132) (by decide +kernel), List.mem_of_getElem? (i := 1133) (by decide +kernel)⟩
theorem lw_p52 : lw_okq (⟨"DialogueGamesModel", "countReplies", "()I"⟩, 35) := ⟨⟨by decide +kernel, by decide +kernel⟩, List.mem_of_getElem? (i := 842) (by decide +kernel), List.mem_of_getElem? (i := 1136) (by decide +kernel), List.mem_of_getElem? (i := 1137) (by decide +kernel)⟩
theorem lw_p53 : lw_okq (⟨"DialogueGamesModel", "reply", "(I)V"⟩, 35) := ⟨⟨by decide +kernel, by decide +kernel⟩, List.mem_of_getElem? (i := 842) (by decide +kernel), List.mem_of_getElem? (i := 1140) (by decide +kernel), List.mem_of_getElem? (i := 1141) (by decide +kernel)⟩
theorem lw_p54 : lw_okq (⟨"DialogueGamesModel", "rankAll", "()V"⟩, 35) := ⟨⟨by decide +kernel, by decide +kernel⟩, List.mem_of_getElem? (i := 842) (by decide +kernel), List.mem_of_getElem? (i := 1144) (by decide +kernel), List.mem_of_getElem? (i := 1145) (by decide +kernel)⟩
theorem lw_p55 : lw_okq (⟨"DialogueGamesModel", "rankBy", "(II)I"⟩, 35) := ⟨⟨by decide +kernel, by decide +kernel⟩, List.mem_of_getElem? (i := 842) (by decide +kernel), List.mem_of_getElem? (i := 1148) (by decide +kernel), List.mem_of_getElem? (i := 1149) (by decide +kernel)⟩
theorem lw_p56 : lw_okq (⟨"DialogueGamesModel", "start", "(III)V"⟩, 35) := ⟨⟨by decide +kernel, by decide +kernel⟩, List.mem_of_getElem? (i := 842) (by decide +kernel), List.mem_of_getElem? (i := 1164) (by decide +kernel), List.mem_of_getElem? (i := 1165) (by decide +kernel)⟩
theorem lw_p57 : lw_okq (⟨"DialogueGamesModel", "isPlaying", "()Z"⟩, 35) := ⟨⟨by decide +kernel, by decide +kernel⟩, List.mem_of_getElem? (i := 842) (by decide +kernel), List.mem_of_getElem? (i := 1172) (by decide +kernel), List.mem_of_getElem? (i := 1173) (by decide +kernel)⟩
theorem lw_p58 : lw_okq (⟨"DialogueGamesModel", "now", "()V"⟩, 35) := ⟨⟨by decide +kernel, by decide +kernel⟩, List.mem_of_getElem? (i := 842) (by decide +kernel), List.mem_of_getElem? (i := 1184) (by decide +kernel), List.mem_of_getElem? (i := 1185) (by decide +kernel)⟩
theorem lw_p59 : lw_okq (⟨"DialogueGamesModel", "isMove", "(I)Z"⟩, 35) := ⟨⟨by decide +kernel, by decide +kernel⟩, List.mem_of_getElem? (i := 842) (by decide +kernel), List.mem_of_getElem? (i := 1192) (by decide +kernel), List.mem_of_getElem? (i := 1193) (by decide +kernel)⟩
theorem lw_p60 : lw_okq (⟨"DialogueGamesModel", "playOne", "(II)I"⟩, 35) := ⟨⟨by decide +kernel, by decide +kernel⟩, List.mem_of_getElem? (i := 842) (by decide +kernel), List.mem_of_getElem? (i := 1200) (by decide +kernel), List.mem_of_getElem? (i := 1201) (by decide +kernel)⟩
theorem lw_p61 : lw_okq (⟨"DialogueGamesModel", "rankNow", "()Z"⟩, 35) := ⟨⟨by decide +kernel, by decide +kernel⟩, List.mem_of_getElem? (i := 842) (by decide +kernel), List.mem_of_getElem? (i := 1212) (by decide +kernel), List.mem_of_getElem? (i := 1213) (by decide +kernel)⟩
def lw_privs_4 : List (MethodName × Nat) := [(⟨"DialogueGamesModel", "stand", "(I)V"⟩, 35), (⟨"DialogueGamesModel", "countMoves", "()I"⟩, 35), (⟨"DialogueGamesModel", "findMove", "(I)I"⟩, 35), (⟨"DialogueGamesModel", "mayClaim", "(I)Z"⟩, 35), (⟨"DialogueGamesModel", "countReplies", "()I"⟩, 35), (⟨"DialogueGamesModel", "reply", "(I)V"⟩, 35), (⟨"DialogueGamesModel", "rankAll", "()V"⟩, 35), (⟨"DialogueGamesModel", "rankBy", "(II)I"⟩, 35), (⟨"DialogueGamesModel", "start", "(III)V"⟩, 35), (⟨"DialogueGamesModel", "isPlaying", "()Z"⟩, 35), (⟨"DialogueGamesModel", "now", "()V"⟩, 35), (⟨"DialogueGamesModel", "isMove", "(I)Z"⟩, 35), (⟨"DialogueGamesModel", "playOne", "(II)I"⟩, 35), (⟨"DialogueGamesModel", "rankNow", "()Z"⟩, 35)]
theorem lw_r4 : ∀ q ∈ lw_privs_4, lw_okq q := List.forall_mem_cons.mpr ⟨lw_p48, List.forall_mem_cons.mpr ⟨lw_p49, List.forall_mem_cons.mpr ⟨lw_p50, List.forall_mem_cons.mpr ⟨lw_p51, List.forall_mem_cons.mpr ⟨lw_p52, List.forall_mem_cons.mpr ⟨lw_p53, List.forall_mem_cons.mpr ⟨lw_p54, List.forall_mem_cons.mpr ⟨lw_p55, List.forall_mem_cons.mpr ⟨lw_p56, List.forall_mem_cons.mpr ⟨lw_p57, List.forall_mem_cons.mpr ⟨lw_p58, List.forall_mem_cons.mpr ⟨lw_p59, List.forall_mem_cons.mpr ⟨lw_p60, List.forall_mem_cons.mpr ⟨lw_p61, fun _ h => absurd h List.not_mem_nil⟩⟩⟩⟩⟩⟩⟩⟩⟩⟩⟩⟩⟩⟩
def lw_privs : List (MethodName × Nat) := lw_privs_1 ++ (lw_privs_2 ++ (lw_privs_3 ++ (lw_privs_4)))
def lw_tbl : List Cond := k2_sels lw_privs ++ tables_1
theorem lw_privs_ok : ∀ q ∈ lw_privs, lw_okq q := by
  show ∀ q ∈ lw_privs_1 ++ (lw_privs_2 ++ (lw_privs_3 ++ (lw_privs_4))), lw_okq q
  exact List.forall_mem_append.mpr ⟨lw_r1, List.forall_mem_append.mpr ⟨lw_r2, List.forall_mem_append.mpr ⟨lw_r3, lw_r4⟩⟩⟩
/-- the streams that the claim lets the run draw from -/
abbrev lw_cs : List Choice := [Jvm.Choice.named "NaN.bits"]
theorem lw_bits : nanBits ∈ lw_cs := by first | decide | exact List.mem_cons_self | simp [lw_cs, nanBits]
-- ===== end of PART A; then your names; then what follows =====
end
section
/-! ===== BEGIN words of one list among another's, by their places ===== -/
theorem goodIn_r {big : List Cond} (ws : List Cond) (ps : List Nat) (hp : ws = ps.filterMap (fun i => big[i]?)) (h : ws.all goodWord = true) : GoodIn big ws := by
  intro w hw
  have h1 := List.all_eq_true.mp h w hw
  rw [hp] at hw
  obtain ⟨i, -, hi⟩ := List.mem_filterMap.mp hw
  have hm : w ∈ big := by first | exact List.mem_of_getElem? hi | exact List.getElem?_mem hi
  exact ⟨hm, good_of_word h1⟩
theorem goodIn_app {big a b : List Cond} (ha : GoodIn big a) (hb : GoodIn big b) : GoodIn big (a ++ b) := fun w h => (List.mem_append.mp h).elim (ha w) (hb w)
theorem goodIn_ca {big a b : List Cond} {c : Cond} (ha : GoodIn big (c :: a)) (hb : GoodIn big b) : GoodIn big (c :: (a ++ b)) := fun w h => (List.mem_cons.mp h).elim (fun e => ha w (List.mem_cons.mpr (Or.inl e))) (fun h => (List.mem_append.mp h).elim (fun h => ha w (List.mem_cons.mpr (Or.inr h))) (hb w))
theorem goodIn_sub {big ws : List Cond} (hm : ∀ w ∈ ws, w ∈ big) (h : ws.all goodWord = true) : GoodIn big ws := fun w hw => ⟨hm w hw, good_of_word (List.all_eq_true.mp h w hw)⟩
/-! ===== END ===== -/

/-! ===== BEGIN printed: names, fields, word lists, decode rows ===== -/
def RX0 : String := "DialogueGames$Board"
def TX0 : u_T := fun k => match k with
  | 0 => ("DialogueGames$Board", "formulas", "LDialogueGames$Formulas;", true)
  | 1 => ("DialogueGames$Board", "moveTypes", "[I", true)
  | 2 => ("DialogueGames$Board", "moveFormulas", "[I", true)
  | 3 => ("DialogueGames$Board", "moveTotal", "I", false)
  | 4 => ("DialogueGames$Board", "manner", "I", false)
  | 5 => ("DialogueGames$Board", "claimed", "J", false)
  | 6 => ("DialogueGames$Board", "open", "J", false)
  | 7 => ("DialogueGames$Board", "nextClaimed", "J", false)
  | _ => ("DialogueGames$Board", "nextOpen", "J", false)
def tyX0 : Nat → FieldType := fun k => match k with
  | 0 => .object "DialogueGames$Formulas"
  | 1 => .array .int
  | 2 => .array .int
  | 3 => .int
  | 4 => .int
  | 5 => .long
  | 6 => .long
  | 7 => .long
  | _ => .long
abbrev wsX00 : List Cond := u_ws RX0 TX0 9
theorem nmX0 : ∀ a, a < 9 → ∀ b, b < 9 → a ≠ b → (TX0 a).2.1 ≠ (TX0 b).2.1 := by decide +kernel
theorem tyX0_ok : ∀ k, k < 9 → parseFieldDescriptor (TX0 k).2.2.1 = some (tyX0 k) := by decide +kernel
abbrev cX0_init : ByteArray := prog_2_method_1_code
def yX0_init : MethodName := ⟨RX0, "<init>", "(LDialogueGames$Formulas;)V"⟩
abbrev cX0_setUp : ByteArray := prog_2_method_2_code
def yX0_setUp : MethodName := ⟨RX0, "setUp", "(JJ)V"⟩
abbrev cX0_addAttacks : ByteArray := prog_2_method_3_code
def yX0_addAttacks : MethodName := ⟨RX0, "addAttacks", "(I)V"⟩
abbrev cX0_addMove : ByteArray := prog_2_method_4_code
def yX0_addMove : MethodName := ⟨RX0, "addMove", "(II)V"⟩
abbrev cX0_canClaim : ByteArray := prog_2_method_5_code
def yX0_canClaim : MethodName := ⟨RX0, "canClaim", "(I)Z"⟩
abbrev cX0_hasMove : ByteArray := prog_2_method_6_code
def yX0_hasMove : MethodName := ⟨RX0, "hasMove", "(I)Z"⟩
abbrev cX0_repliesTo : ByteArray := prog_2_method_7_code
def yX0_repliesTo : MethodName := ⟨RX0, "repliesTo", "(I)I"⟩
abbrev cX0_answer : ByteArray := prog_2_method_8_code
def yX0_answer : MethodName := ⟨RX0, "answer", "(II)V"⟩
abbrev cX0_concede : ByteArray := prog_2_method_9_code
def yX0_concede : MethodName := ⟨RX0, "concede", "(I)V"⟩
abbrev cX0_attack : ByteArray := prog_2_method_10_code
def yX0_attack : MethodName := ⟨RX0, "attack", "(II)V"⟩
abbrev cX0_bitOf : ByteArray := prog_2_method_11_code
def yX0_bitOf : MethodName := ⟨RX0, "bitOf", "(I)J"⟩
def RX1 : String := "DialogueGames$Dialogue"
def TX1 : u_T := fun k => match k with
  | 0 => ("DialogueGames$Dialogue", "board", "LDialogueGames$Board;", true)
  | 1 => ("DialogueGames$Dialogue", "pastClaimed", "[J", true)
  | 2 => ("DialogueGames$Dialogue", "pastOpen", "[J", true)
  | 3 => ("DialogueGames$Dialogue", "played", "I", false)
  | 4 => ("DialogueGames$Dialogue", "begun", "Z", false)
  | _ => ("DialogueGames$Dialogue", "won", "Z", false)
def tyX1 : Nat → FieldType := fun k => match k with
  | 0 => .object "DialogueGames$Board"
  | 1 => .array .long
  | 2 => .array .long
  | 3 => .int
  | 4 => .boolean
  | _ => .boolean
abbrev wsX10 : List Cond := u_ws RX1 TX1 6
theorem nmX1 : ∀ a, a < 6 → ∀ b, b < 6 → a ≠ b → (TX1 a).2.1 ≠ (TX1 b).2.1 := by decide +kernel
theorem tyX1_ok : ∀ k, k < 6 → parseFieldDescriptor (TX1 k).2.2.1 = some (tyX1 k) := by decide +kernel
abbrev cX1_init : ByteArray := prog_3_method_1_code
def yX1_init : MethodName := ⟨RX1, "<init>", "(LDialogueGames$Formulas;)V"⟩
abbrev cX1_isOn : ByteArray := prog_3_method_2_code
def yX1_isOn : MethodName := ⟨RX1, "isOn", "()Z"⟩
abbrev cX1_drop : ByteArray := prog_3_method_3_code
def yX1_drop : MethodName := ⟨RX1, "drop", "()V"⟩
abbrev cX1_open : ByteArray := prog_3_method_4_code
def yX1_open : MethodName := ⟨RX1, "open", "(III)V"⟩
abbrev cX1_advance : ByteArray := prog_3_method_5_code
def yX1_advance : MethodName := ⟨RX1, "advance", "(II)I"⟩
abbrev cX1_stepBack : ByteArray := prog_3_method_6_code
def yX1_stepBack : MethodName := ⟨RX1, "stepBack", "()Z"⟩
def RX2 : String := "DialogueGames$Formulas"
def TX2 : u_T := fun k => match k with
  | 0 => ("DialogueGames$Formulas", "kinds", "[I", true)
  | 1 => ("DialogueGames$Formulas", "firsts", "[I", true)
  | 2 => ("DialogueGames$Formulas", "seconds", "[I", true)
  | 3 => ("DialogueGames$Formulas", "sizes", "[I", true)
  | 4 => ("DialogueGames$Formulas", "tables", "[I", true)
  | 5 => ("DialogueGames$Formulas", "subsets", "[J", true)
  | _ => ("DialogueGames$Formulas", "count", "I", false)
def tyX2 : Nat → FieldType := fun k => match k with
  | 0 => .array .int
  | 1 => .array .int
  | 2 => .array .int
  | 3 => .array .int
  | 4 => .array .int
  | 5 => .array .long
  | _ => .int
abbrev wsX20 : List Cond := u_ws RX2 TX2 7
theorem nmX2 : ∀ a, a < 7 → ∀ b, b < 7 → a ≠ b → (TX2 a).2.1 ≠ (TX2 b).2.1 := by decide +kernel
theorem tyX2_ok : ∀ k, k < 7 → parseFieldDescriptor (TX2 k).2.2.1 = some (tyX2 k) := by decide +kernel
abbrev cX2_init : ByteArray := prog_4_method_1_code
def yX2_init : MethodName := ⟨RX2, "<init>", "()V"⟩
abbrev cX2_atomTable : ByteArray := prog_4_method_2_code
def yX2_atomTable : MethodName := ⟨RX2, "atomTable", "(I)I"⟩
abbrev cX2_has : ByteArray := prog_4_method_3_code
def yX2_has : MethodName := ⟨RX2, "has", "(I)Z"⟩
abbrev cX2_kindOf : ByteArray := prog_4_method_4_code
def yX2_kindOf : MethodName := ⟨RX2, "kindOf", "(I)I"⟩
abbrev cX2_firstOf : ByteArray := prog_4_method_5_code
def yX2_firstOf : MethodName := ⟨RX2, "firstOf", "(I)I"⟩
abbrev cX2_secondOf : ByteArray := prog_4_method_6_code
def yX2_secondOf : MethodName := ⟨RX2, "secondOf", "(I)I"⟩
abbrev cX2_attacksOn : ByteArray := prog_4_method_7_code
def yX2_attacksOn : MethodName := ⟨RX2, "attacksOn", "(I)I"⟩
abbrev cX2_shrinkTo : ByteArray := prog_4_method_8_code
def yX2_shrinkTo : MethodName := ⟨RX2, "shrinkTo", "(I)V"⟩
abbrev cX2_negationOf : ByteArray := prog_4_method_9_code
def yX2_negationOf : MethodName := ⟨RX2, "negationOf", "(I)I"⟩
abbrev cX2_make : ByteArray := prog_4_method_10_code
def yX2_make : MethodName := ⟨RX2, "make", "(III)I"⟩
abbrev cX2_find : ByteArray := prog_4_method_11_code
def yX2_find : MethodName := ⟨RX2, "find", "(III)I"⟩
abbrev cX2_tableOf : ByteArray := prog_4_method_12_code
def yX2_tableOf : MethodName := ⟨RX2, "tableOf", "(III)I"⟩
def RX3 : String := "DialogueGames$Input"
def TX3 : u_T := fun k => match k with
  | 0 => ("DialogueGames$Input", "signs", "[I", true)
  | _ => ("DialogueGames$Input", "length", "I", false)
def tyX3 : Nat → FieldType := fun k => match k with
  | 0 => .array .int
  | _ => .int
abbrev wsX30 : List Cond := u_ws RX3 TX3 2
theorem nmX3 : ∀ a, a < 2 → ∀ b, b < 2 → a ≠ b → (TX3 a).2.1 ≠ (TX3 b).2.1 := by decide +kernel
theorem tyX3_ok : ∀ k, k < 2 → parseFieldDescriptor (TX3 k).2.2.1 = some (tyX3 k) := by decide +kernel
abbrev cX3_init : ByteArray := prog_5_method_1_code
def yX3_init : MethodName := ⟨RX3, "<init>", "()V"⟩
abbrev cX3_add : ByteArray := prog_5_method_2_code
def yX3_add : MethodName := ⟨RX3, "add", "(II)Z"⟩
abbrev cX3_signAt : ByteArray := prog_5_method_3_code
def yX3_signAt : MethodName := ⟨RX3, "signAt", "(I)I"⟩
abbrev cX3_spells : ByteArray := prog_5_method_4_code
def yX3_spells : MethodName := ⟨RX3, "spells", "(Ljava/lang/String;)Z"⟩
def RX4 : String := "DialogueGames$Search"
def TX4 : u_T := fun k => match k with
  | 0 => ("DialogueGames$Search", "formulas", "LDialogueGames$Formulas;", true)
  | 1 => ("DialogueGames$Search", "board", "LDialogueGames$Board;", true)
  | 2 => ("DialogueGames$Search", "claims", "[J", true)
  | 3 => ("DialogueGames$Search", "opens", "[J", true)
  | 4 => ("DialogueGames$Search", "ranks", "[I", true)
  | 5 => ("DialogueGames$Search", "places", "[I", true)
  | 6 => ("DialogueGames$Search", "links", "[I", false)
  | 7 => ("DialogueGames$Search", "linkStarts", "[I", true)
  | 8 => ("DialogueGames$Search", "linkCount", "I", false)
  | 9 => ("DialogueGames$Search", "starts", "I", false)
  | 10 => ("DialogueGames$Search", "total", "I", false)
  | _ => ("DialogueGames$Search", "exceeded", "Z", false)
def tyX4 : Nat → FieldType := fun k => match k with
  | 0 => .object "DialogueGames$Formulas"
  | 1 => .object "DialogueGames$Board"
  | 2 => .array .long
  | 3 => .array .long
  | 4 => .array .int
  | 5 => .array .int
  | 6 => .array .int
  | 7 => .array .int
  | 8 => .int
  | 9 => .int
  | 10 => .int
  | _ => .boolean
abbrev wsX40 : List Cond := u_ws RX4 TX4 12
theorem nmX4 : ∀ a, a < 12 → ∀ b, b < 12 → a ≠ b → (TX4 a).2.1 ≠ (TX4 b).2.1 := by decide +kernel
theorem tyX4_ok : ∀ k, k < 12 → parseFieldDescriptor (TX4 k).2.2.1 = some (tyX4 k) := by decide +kernel
abbrev cX4_init : ByteArray := prog_6_method_1_code
def yX4_init : MethodName := ⟨RX4, "<init>", "(LDialogueGames$Formulas;)V"⟩
abbrev cX4_startFromFormula : ByteArray := prog_6_method_2_code
def yX4_startFromFormula : MethodName := ⟨RX4, "startFromFormula", "(II)V"⟩
abbrev cX4_startFromPosition : ByteArray := prog_6_method_3_code
def yX4_startFromPosition : MethodName := ⟨RX4, "startFromPosition", "(JJI)V"⟩
abbrev cX4_clear : ByteArray := prog_6_method_4_code
def yX4_clear : MethodName := ⟨RX4, "clear", "(I)V"⟩
abbrev cX4_explore : ByteArray := prog_6_method_5_code
def yX4_explore : MethodName := ⟨RX4, "explore", "()Z"⟩
abbrev cX4_linkMove : ByteArray := prog_6_method_6_code
def yX4_linkMove : MethodName := ⟨RX4, "linkMove", "(II)V"⟩
abbrev cX4_addLink : ByteArray := prog_6_method_7_code
def yX4_addLink : MethodName := ⟨RX4, "addLink", "(I)V"⟩
abbrev cX4_numberOf : ByteArray := prog_6_method_8_code
def yX4_numberOf : MethodName := ⟨RX4, "numberOf", "(JJ)I"⟩
abbrev cX4_placeOf : ByteArray := prog_6_method_9_code
def yX4_placeOf : MethodName := ⟨RX4, "placeOf", "(JJ)I"⟩
abbrev cX4_settleRanks : ByteArray := prog_6_method_10_code
def yX4_settleRanks : MethodName := ⟨RX4, "settleRanks", "()V"⟩
abbrev cX4_winsWithin : ByteArray := prog_6_method_11_code
def yX4_winsWithin : MethodName := ⟨RX4, "winsWithin", "(II)Z"⟩
abbrev cX4_areBelow : ByteArray := prog_6_method_12_code
def yX4_areBelow : MethodName := ⟨RX4, "areBelow", "(III)Z"⟩
abbrev cX4_highestStartRank : ByteArray := prog_6_method_13_code
def yX4_highestStartRank : MethodName := ⟨RX4, "highestStartRank", "()I"⟩
abbrev cX4_rankOf : ByteArray := prog_6_method_14_code
def yX4_rankOf : MethodName := ⟨RX4, "rankOf", "(JJ)I"⟩
def RX5 : String := "DialogueGames$Slot"
def TX5 : u_T := fun k => match k with
  | 0 => ("DialogueGames$Slot", "wholes", "[J", true)
  | 1 => ("DialogueGames$Slot", "reals", "[D", true)
  | 2 => ("DialogueGames$Slot", "marks", "[I", true)
  | 3 => ("DialogueGames$Slot", "type", "I", false)
  | _ => ("DialogueGames$Slot", "length", "I", false)
def tyX5 : Nat → FieldType := fun k => match k with
  | 0 => .array .long
  | 1 => .array .double
  | 2 => .array .int
  | 3 => .int
  | _ => .int
abbrev wsX50 : List Cond := u_ws RX5 TX5 5
theorem nmX5 : ∀ a, a < 5 → ∀ b, b < 5 → a ≠ b → (TX5 a).2.1 ≠ (TX5 b).2.1 := by decide +kernel
theorem tyX5_ok : ∀ k, k < 5 → parseFieldDescriptor (TX5 k).2.2.1 = some (tyX5 k) := by decide +kernel
abbrev cX5_init : ByteArray := prog_7_method_1_code
def yX5_init : MethodName := ⟨RX5, "<init>", "()V"⟩
abbrev cX5_isEmpty : ByteArray := prog_7_method_2_code
def yX5_isEmpty : MethodName := ⟨RX5, "isEmpty", "()Z"⟩
abbrev cX5_holdsReals : ByteArray := prog_7_method_3_code
def yX5_holdsReals : MethodName := ⟨RX5, "holdsReals", "()Z"⟩
abbrev cX5_covers : ByteArray := prog_7_method_4_code
def yX5_covers : MethodName := ⟨RX5, "covers", "(II)Z"⟩
abbrev cX5_fillAnew : ByteArray := prog_7_method_5_code
def yX5_fillAnew : MethodName := ⟨RX5, "fillAnew", "(II)V"⟩
abbrev cX5_drop : ByteArray := prog_7_method_6_code
def yX5_drop : MethodName := ⟨RX5, "drop", "()Z"⟩
abbrev cX5_write : ByteArray := prog_7_method_7_code
def yX5_write : MethodName := ⟨RX5, "write", "(IJ)V"⟩
abbrev cX5_read : ByteArray := prog_7_method_8_code
def yX5_read : MethodName := ⟨RX5, "read", "(I)J"⟩
abbrev cX5_divide : ByteArray := prog_7_method_9_code
def yX5_divide : MethodName := ⟨RX5, "divide", "(II)V"⟩
abbrev cX5_keepRemainder : ByteArray := prog_7_method_10_code
def yX5_keepRemainder : MethodName := ⟨RX5, "keepRemainder", "(II)V"⟩
abbrev cX5_remainderOf : ByteArray := prog_7_method_11_code
def yX5_remainderOf : MethodName := ⟨RX5, "remainderOf", "(DJ)D"⟩
abbrev cX5_copyTo : ByteArray := prog_7_method_12_code
def yX5_copyTo : MethodName := ⟨RX5, "copyTo", "(ILDialogueGames$Slot;II)V"⟩
def RX6 : String := "DialogueGames$TextReader"
def TX6 : u_T := fun k => match k with
  | 0 => ("DialogueGames$TextReader", "formulas", "LDialogueGames$Formulas;", true)
  | 1 => ("DialogueGames$TextReader", "operators", "[I", true)
  | 2 => ("DialogueGames$TextReader", "operands", "[I", true)
  | 3 => ("DialogueGames$TextReader", "operatorCount", "I", false)
  | 4 => ("DialogueGames$TextReader", "operandCount", "I", false)
  | _ => ("DialogueGames$TextReader", "full", "Z", false)
def tyX6 : Nat → FieldType := fun k => match k with
  | 0 => .object "DialogueGames$Formulas"
  | 1 => .array .int
  | 2 => .array .int
  | 3 => .int
  | 4 => .int
  | _ => .boolean
abbrev wsX60 : List Cond := u_ws RX6 TX6 6
theorem nmX6 : ∀ a, a < 6 → ∀ b, b < 6 → a ≠ b → (TX6 a).2.1 ≠ (TX6 b).2.1 := by decide +kernel
theorem tyX6_ok : ∀ k, k < 6 → parseFieldDescriptor (TX6 k).2.2.1 = some (tyX6 k) := by decide +kernel
abbrev cX6_init : ByteArray := prog_8_method_1_code
def yX6_init : MethodName := ⟨RX6, "<init>", "(LDialogueGames$Formulas;)V"⟩
abbrev cX6_faultIn : ByteArray := prog_8_method_2_code
def yX6_faultIn : MethodName := ⟨RX6, "faultIn", "(LDialogueGames$Input;)I"⟩
abbrev cX6_build : ByteArray := prog_8_method_3_code
def yX6_build : MethodName := ⟨RX6, "build", "(LDialogueGames$Input;)I"⟩
abbrev cX6_take : ByteArray := prog_8_method_4_code
def yX6_take : MethodName := ⟨RX6, "take", "(I)V"⟩
abbrev cX6_joinUpTo : ByteArray := prog_8_method_5_code
def yX6_joinUpTo : MethodName := ⟨RX6, "joinUpTo", "(I)V"⟩
abbrev cX6_join : ByteArray := prog_8_method_6_code
def yX6_join : MethodName := ⟨RX6, "join", "(I)V"⟩
abbrev cX6_pushOperator : ByteArray := prog_8_method_7_code
def yX6_pushOperator : MethodName := ⟨RX6, "pushOperator", "(I)V"⟩
abbrev cX6_pushOperand : ByteArray := prog_8_method_8_code
def yX6_pushOperand : MethodName := ⟨RX6, "pushOperand", "(I)V"⟩
abbrev cX6_isAtomSign : ByteArray := prog_8_method_9_code
def yX6_isAtomSign : MethodName := ⟨RX6, "isAtomSign", "(I)Z"⟩
abbrev cX6_kindOfOperator : ByteArray := prog_8_method_10_code
def yX6_kindOfOperator : MethodName := ⟨RX6, "kindOfOperator", "(I)I"⟩
def RX7 : String := "DialogueGames$Transformer"
def TX7 : u_T := fun k => match k with
  | 0 => ("DialogueGames$Transformer", "formulas", "LDialogueGames$Formulas;", true)
  | _ => ("DialogueGames$Transformer", "images", "[I", true)
def tyX7 : Nat → FieldType := fun k => match k with
  | 0 => .object "DialogueGames$Formulas"
  | _ => .array .int
abbrev wsX70 : List Cond := u_ws RX7 TX7 2
theorem nmX7 : ∀ a, a < 2 → ∀ b, b < 2 → a ≠ b → (TX7 a).2.1 ≠ (TX7 b).2.1 := by decide +kernel
theorem tyX7_ok : ∀ k, k < 2 → parseFieldDescriptor (TX7 k).2.2.1 = some (tyX7 k) := by decide +kernel
abbrev cX7_init : ByteArray := prog_9_method_1_code
def yX7_init : MethodName := ⟨RX7, "<init>", "(LDialogueGames$Formulas;)V"⟩
abbrev cX7_wordIn : ByteArray := prog_9_method_2_code
def yX7_wordIn : MethodName := ⟨RX7, "wordIn", "(LDialogueGames$Input;)I"⟩
abbrev cX7_applies : ByteArray := prog_9_method_3_code
def yX7_applies : MethodName := ⟨RX7, "applies", "(II)Z"⟩
abbrev cX7_makeBy : ByteArray := prog_9_method_4_code
def yX7_makeBy : MethodName := ⟨RX7, "makeBy", "(II)I"⟩
abbrev cX7_translate : ByteArray := prog_9_method_5_code
def yX7_translate : MethodName := ⟨RX7, "translate", "(II)I"⟩
abbrev cX7_imageOf : ByteArray := prog_9_method_6_code
def yX7_imageOf : MethodName := ⟨RX7, "imageOf", "(II)I"⟩
def RX8 : String := "DialogueGames"
def TX8 : u_T := fun k => match k with
  | 0 => ("DialogueGames", "formulas", "LDialogueGames$Formulas;", true)
  | 1 => ("DialogueGames", "input", "LDialogueGames$Input;", true)
  | 2 => ("DialogueGames", "textReader", "LDialogueGames$TextReader;", true)
  | 3 => ("DialogueGames", "transformer", "LDialogueGames$Transformer;", true)
  | 4 => ("DialogueGames", "dialogue", "LDialogueGames$Dialogue;", true)
  | 5 => ("DialogueGames", "search", "LDialogueGames$Search;", true)
  | _ => ("DialogueGames", "slots", "[LDialogueGames$Slot;", true)
def tyX8 : Nat → FieldType := fun k => match k with
  | 0 => .object "DialogueGames$Formulas"
  | 1 => .object "DialogueGames$Input"
  | 2 => .object "DialogueGames$TextReader"
  | 3 => .object "DialogueGames$Transformer"
  | 4 => .object "DialogueGames$Dialogue"
  | 5 => .object "DialogueGames$Search"
  | _ => .array (.object "DialogueGames$Slot")
abbrev wsX80 : List Cond := u_ws RX8 TX8 7
theorem nmX8 : ∀ a, a < 7 → ∀ b, b < 7 → a ≠ b → (TX8 a).2.1 ≠ (TX8 b).2.1 := by decide +kernel
theorem tyX8_ok : ∀ k, k < 7 → parseFieldDescriptor (TX8 k).2.2.1 = some (tyX8 k) := by decide +kernel
abbrev cX8_init : ByteArray := prog_1_method_1_code
def yX8_init : MethodName := ⟨RX8, "<init>", "()V"⟩
abbrev cX8_reset : ByteArray := prog_1_method_2_code
def yX8_reset : MethodName := ⟨RX8, "reset", "()I"⟩
abbrev cX8_formulaCount : ByteArray := prog_1_method_3_code
def yX8_formulaCount : MethodName := ⟨RX8, "formulaCount", "()I"⟩
abbrev cX8_append : ByteArray := prog_1_method_4_code
def yX8_append : MethodName := ⟨RX8, "append", "(II)I"⟩
abbrev cX8_clearInput : ByteArray := prog_1_method_5_code
def yX8_clearInput : MethodName := ⟨RX8, "clearInput", "()I"⟩
abbrev cX8_parse : ByteArray := prog_1_method_6_code
def yX8_parse : MethodName := ⟨RX8, "parse", "()I"⟩
abbrev cX8_negate : ByteArray := prog_1_method_7_code
def yX8_negate : MethodName := ⟨RX8, "negate", "(I)I"⟩
abbrev cX8_combine : ByteArray := prog_1_method_8_code
def yX8_combine : MethodName := ⟨RX8, "combine", "(III)I"⟩
abbrev cX8_kind : ByteArray := prog_1_method_9_code
def yX8_kind : MethodName := ⟨RX8, "kind", "(I)I"⟩
abbrev cX8_part : ByteArray := prog_1_method_10_code
def yX8_part : MethodName := ⟨RX8, "part", "(II)I"⟩
abbrev cX8_size : ByteArray := prog_1_method_11_code
def yX8_size : MethodName := ⟨RX8, "size", "(I)I"⟩
abbrev cX8_subformulas : ByteArray := prog_1_method_12_code
def yX8_subformulas : MethodName := ⟨RX8, "subformulas", "(I)J"⟩
abbrev cX8_truthTable : ByteArray := prog_1_method_13_code
def yX8_truthTable : MethodName := ⟨RX8, "truthTable", "(I)I"⟩
abbrev cX8_isEquivalent : ByteArray := prog_1_method_14_code
def yX8_isEquivalent : MethodName := ⟨RX8, "isEquivalent", "(II)I"⟩
abbrev cX8_transform : ByteArray := prog_1_method_15_code
def yX8_transform : MethodName := ⟨RX8, "transform", "(I)I"⟩
abbrev cX8_rank : ByteArray := prog_1_method_16_code
def yX8_rank : MethodName := ⟨RX8, "rank", "(II)I"⟩
abbrev cX8_positionCount : ByteArray := prog_1_method_17_code
def yX8_positionCount : MethodName := ⟨RX8, "positionCount", "(II)I"⟩
abbrev cX8_manners : ByteArray := prog_1_method_18_code
def yX8_manners : MethodName := ⟨RX8, "manners", "(I)I"⟩
abbrev cX8_begin : ByteArray := prog_1_method_19_code
def yX8_begin : MethodName := ⟨RX8, "begin", "(III)I"⟩
abbrev cX8_claims : ByteArray := prog_1_method_20_code
def yX8_claims : MethodName := ⟨RX8, "claims", "()J"⟩
abbrev cX8_defences : ByteArray := prog_1_method_21_code
def yX8_defences : MethodName := ⟨RX8, "defences", "()J"⟩
abbrev cX8_moveCount : ByteArray := prog_1_method_22_code
def yX8_moveCount : MethodName := ⟨RX8, "moveCount", "()I"⟩
abbrev cX8_move : ByteArray := prog_1_method_23_code
def yX8_move : MethodName := ⟨RX8, "move", "(II)I"⟩
abbrev cX8_play : ByteArray := prog_1_method_24_code
def yX8_play : MethodName := ⟨RX8, "play", "(II)I"⟩
abbrev cX8_takeBack : ByteArray := prog_1_method_25_code
def yX8_takeBack : MethodName := ⟨RX8, "takeBack", "()I"⟩
abbrev cX8_positionRank : ByteArray := prog_1_method_26_code
def yX8_positionRank : MethodName := ⟨RX8, "positionRank", "()I"⟩
abbrev cX8_bestMove : ByteArray := prog_1_method_27_code
def yX8_bestMove : MethodName := ⟨RX8, "bestMove", "()I"⟩
abbrev cX8_hardestReply : ByteArray := prog_1_method_28_code
def yX8_hardestReply : MethodName := ⟨RX8, "hardestReply", "(I)I"⟩
abbrev cX8_allocate : ByteArray := prog_1_method_29_code
def yX8_allocate : MethodName := ⟨RX8, "allocate", "(III)I"⟩
abbrev cX8_release : ByteArray := prog_1_method_30_code
def yX8_release : MethodName := ⟨RX8, "release", "(I)I"⟩
abbrev cX8_putElement : ByteArray := prog_1_method_31_code
def yX8_putElement : MethodName := ⟨RX8, "putElement", "(IIJ)I"⟩
abbrev cX8_element : ByteArray := prog_1_method_32_code
def yX8_element : MethodName := ⟨RX8, "element", "(II)J"⟩
abbrev cX8_compute : ByteArray := prog_1_method_33_code
def yX8_compute : MethodName := ⟨RX8, "compute", "(IIII)I"⟩
abbrev cX8_copyElements : ByteArray := prog_1_method_34_code
def yX8_copyElements : MethodName := ⟨RX8, "copyElements", "(IIIII)I"⟩
abbrev cX8_replay : ByteArray := prog_1_method_35_code
def yX8_replay : MethodName := ⟨RX8, "replay", "(III)I"⟩
abbrev cX8_playStored : ByteArray := prog_1_method_36_code
def yX8_playStored : MethodName := ⟨RX8, "playStored", "(LDialogueGames$Slot;)I"⟩
abbrev cX8_isManner : ByteArray := prog_1_method_37_code
def yX8_isManner : MethodName := ⟨RX8, "isManner", "(I)Z"⟩
abbrev cX8_slotAt : ByteArray := prog_1_method_38_code
def yX8_slotAt : MethodName := ⟨RX8, "slotAt", "(I)LDialogueGames$Slot;"⟩
abbrev cX8_rankIn : ByteArray := prog_1_method_39_code
def yX8_rankIn : MethodName := ⟨RX8, "rankIn", "(II)I"⟩
abbrev cX8_presentRank : ByteArray := prog_1_method_40_code
def yX8_presentRank : MethodName := ⟨RX8, "presentRank", "()I"⟩
abbrev cX8_rankAfter : ByteArray := prog_1_method_41_code
def yX8_rankAfter : MethodName := ⟨RX8, "rankAfter", "(II)I"⟩
abbrev cX8_longestAfter : ByteArray := prog_1_method_42_code
def yX8_longestAfter : MethodName := ⟨RX8, "longestAfter", "(I)I"⟩
def RX9 : String := "DialogueGamesModel"
def TX9 : u_T := fun k => match k with
  | 0 => ("DialogueGamesModel", "formulas", "I", false)
  | 1 => ("DialogueGamesModel", "kinds", "[I", true)
  | 2 => ("DialogueGamesModel", "first", "[I", true)
  | 3 => ("DialogueGamesModel", "second", "[I", true)
  | 4 => ("DialogueGamesModel", "isFull", "Z", false)
  | 5 => ("DialogueGamesModel", "input", "[I", true)
  | 6 => ("DialogueGamesModel", "typed", "I", false)
  | 7 => ("DialogueGamesModel", "at", "I", false)
  | 8 => ("DialogueGamesModel", "end", "I", false)
  | 9 => ("DialogueGamesModel", "fault", "I", false)
  | 10 => ("DialogueGamesModel", "isMaking", "Z", false)
  | 11 => ("DialogueGamesModel", "sizes", "[I", true)
  | 12 => ("DialogueGamesModel", "tables", "[I", true)
  | 13 => ("DialogueGamesModel", "unders", "[J", true)
  | 14 => ("DialogueGamesModel", "translated", "[I", true)
  | 15 => ("DialogueGamesModel", "claimed", "J", false)
  | 16 => ("DialogueGamesModel", "open", "J", false)
  | 17 => ("DialogueGamesModel", "manner", "I", false)
  | 18 => ("DialogueGamesModel", "moveType", "I", false)
  | 19 => ("DialogueGamesModel", "moveFormula", "I", false)
  | 20 => ("DialogueGamesModel", "claims", "[J", true)
  | 21 => ("DialogueGamesModel", "opens", "[J", true)
  | 22 => ("DialogueGamesModel", "ranks", "[I", true)
  | 23 => ("DialogueGamesModel", "positions", "I", false)
  | 24 => ("DialogueGamesModel", "isBegun", "Z", false)
  | 25 => ("DialogueGamesModel", "isOver", "Z", false)
  | 26 => ("DialogueGamesModel", "played", "I", false)
  | 27 => ("DialogueGamesModel", "stoodClaims", "[J", true)
  | 28 => ("DialogueGamesModel", "stoodOpens", "[J", true)
  | 29 => ("DialogueGamesModel", "types", "[I", true)
  | 30 => ("DialogueGamesModel", "lengths", "[I", true)
  | 31 => ("DialogueGamesModel", "wholes", "[J", true)
  | 32 => ("DialogueGamesModel", "reals", "[D", true)
  | 33 => ("DialogueGamesModel", "movedWholes", "[J", true)
  | _ => ("DialogueGamesModel", "movedReals", "[D", true)
def tyX9 : Nat → FieldType := fun k => match k with
  | 0 => .int
  | 1 => .array .int
  | 2 => .array .int
  | 3 => .array .int
  | 4 => .boolean
  | 5 => .array .int
  | 6 => .int
  | 7 => .int
  | 8 => .int
  | 9 => .int
  | 10 => .boolean
  | 11 => .array .int
  | 12 => .array .int
  | 13 => .array .long
  | 14 => .array .int
  | 15 => .long
  | 16 => .long
  | 17 => .int
  | 18 => .int
  | 19 => .int
  | 20 => .array .long
  | 21 => .array .long
  | 22 => .array .int
  | 23 => .int
  | 24 => .boolean
  | 25 => .boolean
  | 26 => .int
  | 27 => .array .long
  | 28 => .array .long
  | 29 => .array .int
  | 30 => .array .int
  | 31 => .array .long
  | 32 => .array .double
  | 33 => .array .long
  | _ => .array .double
abbrev wsX90 : List Cond := u_ws RX9 TX9 35
theorem nmX9 : ∀ a, a < 35 → ∀ b, b < 35 → a ≠ b → (TX9 a).2.1 ≠ (TX9 b).2.1 := by decide +kernel
theorem tyX9_ok : ∀ k, k < 35 → parseFieldDescriptor (TX9 k).2.2.1 = some (tyX9 k) := by decide +kernel
abbrev cX9_init : ByteArray := prog_11_method_1_code
def yX9_init : MethodName := ⟨RX9, "<init>", "()V"⟩
abbrev cX9_isIn : ByteArray := prog_11_method_2_code
def yX9_isIn : MethodName := ⟨RX9, "isIn", "(III)Z"⟩
abbrev cX9_isFormula : ByteArray := prog_11_method_3_code
def yX9_isFormula : MethodName := ⟨RX9, "isFormula", "(I)Z"⟩
abbrev cX9_make : ByteArray := prog_11_method_4_code
def yX9_make : MethodName := ⟨RX9, "make", "(III)I"⟩
abbrev cX9_settled : ByteArray := prog_11_method_5_code
def yX9_settled : MethodName := ⟨RX9, "settled", "(II)I"⟩
abbrev cX9_reset : ByteArray := prog_11_method_6_code
def yX9_reset : MethodName := ⟨RX9, "reset", "()I"⟩
abbrev cX9_formulaCount : ByteArray := prog_11_method_7_code
def yX9_formulaCount : MethodName := ⟨RX9, "formulaCount", "()I"⟩
abbrev cX9_append : ByteArray := prog_11_method_8_code
def yX9_append : MethodName := ⟨RX9, "append", "(II)I"⟩
abbrev cX9_clearInput : ByteArray := prog_11_method_9_code
def yX9_clearInput : MethodName := ⟨RX9, "clearInput", "()I"⟩
abbrev cX9_goes : ByteArray := prog_11_method_10_code
def yX9_goes : MethodName := ⟨RX9, "goes", "(C)Z"⟩
abbrev cX9_made : ByteArray := prog_11_method_11_code
def yX9_made : MethodName := ⟨RX9, "made", "(III)I"⟩
abbrev cX9_readImplication : ByteArray := prog_11_method_12_code
def yX9_readImplication : MethodName := ⟨RX9, "readImplication", "()I"⟩
abbrev cX9_readDisjunction : ByteArray := prog_11_method_13_code
def yX9_readDisjunction : MethodName := ⟨RX9, "readDisjunction", "()I"⟩
abbrev cX9_readConjunction : ByteArray := prog_11_method_14_code
def yX9_readConjunction : MethodName := ⟨RX9, "readConjunction", "()I"⟩
abbrev cX9_readSimple : ByteArray := prog_11_method_15_code
def yX9_readSimple : MethodName := ⟨RX9, "readSimple", "()I"⟩
abbrev cX9_readAll : ByteArray := prog_11_method_16_code
def yX9_readAll : MethodName := ⟨RX9, "readAll", "(Z)I"⟩
abbrev cX9_parse : ByteArray := prog_11_method_17_code
def yX9_parse : MethodName := ⟨RX9, "parse", "()I"⟩
abbrev cX9_negate : ByteArray := prog_11_method_18_code
def yX9_negate : MethodName := ⟨RX9, "negate", "(I)I"⟩
abbrev cX9_combine : ByteArray := prog_11_method_19_code
def yX9_combine : MethodName := ⟨RX9, "combine", "(III)I"⟩
abbrev cX9_kind : ByteArray := prog_11_method_20_code
def yX9_kind : MethodName := ⟨RX9, "kind", "(I)I"⟩
abbrev cX9_part : ByteArray := prog_11_method_21_code
def yX9_part : MethodName := ⟨RX9, "part", "(II)I"⟩
abbrev cX9_size : ByteArray := prog_11_method_22_code
def yX9_size : MethodName := ⟨RX9, "size", "(I)I"⟩
abbrev cX9_subformulas : ByteArray := prog_11_method_23_code
def yX9_subformulas : MethodName := ⟨RX9, "subformulas", "(I)J"⟩
abbrev cX9_tableOf : ByteArray := prog_11_method_24_code
def yX9_tableOf : MethodName := ⟨RX9, "tableOf", "(I)I"⟩
abbrev cX9_truthTable : ByteArray := prog_11_method_25_code
def yX9_truthTable : MethodName := ⟨RX9, "truthTable", "(I)I"⟩
abbrev cX9_isEquivalent : ByteArray := prog_11_method_26_code
def yX9_isEquivalent : MethodName := ⟨RX9, "isEquivalent", "(II)I"⟩
abbrev cX9_letterAt : ByteArray := prog_11_method_27_code
def yX9_letterAt : MethodName := ⟨RX9, "letterAt", "(II)I"⟩
abbrev cX9_readWord : ByteArray := prog_11_method_28_code
def yX9_readWord : MethodName := ⟨RX9, "readWord", "(I)I"⟩
abbrev cX9_not : ByteArray := prog_11_method_29_code
def yX9_not : MethodName := ⟨RX9, "not", "(I)I"⟩
abbrev cX9_translate : ByteArray := prog_11_method_30_code
def yX9_translate : MethodName := ⟨RX9, "translate", "(I)I"⟩
abbrev cX9_translation : ByteArray := prog_11_method_31_code
def yX9_translation : MethodName := ⟨RX9, "translation", "(I)I"⟩
abbrev cX9_transformed : ByteArray := prog_11_method_32_code
def yX9_transformed : MethodName := ⟨RX9, "transformed", "(II)I"⟩
abbrev cX9_transform : ByteArray := prog_11_method_33_code
def yX9_transform : MethodName := ⟨RX9, "transform", "(I)I"⟩
abbrev cX9_attacksOn : ByteArray := prog_11_method_34_code
def yX9_attacksOn : MethodName := ⟨RX9, "attacksOn", "(I)I"⟩
abbrev cX9_attack : ByteArray := prog_11_method_35_code
def yX9_attack : MethodName := ⟨RX9, "attack", "(II)V"⟩
abbrev cX9_mayClaim : ByteArray := prog_11_method_36_code
def yX9_mayClaim : MethodName := ⟨RX9, "mayClaim", "(I)Z"⟩
abbrev cX9_findMove : ByteArray := prog_11_method_37_code
def yX9_findMove : MethodName := ⟨RX9, "findMove", "(I)I"⟩
abbrev cX9_countMoves : ByteArray := prog_11_method_38_code
def yX9_countMoves : MethodName := ⟨RX9, "countMoves", "()I"⟩
abbrev cX9_isMove : ByteArray := prog_11_method_39_code
def yX9_isMove : MethodName := ⟨RX9, "isMove", "(I)Z"⟩
abbrev cX9_countReplies : ByteArray := prog_11_method_40_code
def yX9_countReplies : MethodName := ⟨RX9, "countReplies", "()I"⟩
abbrev cX9_reply : ByteArray := prog_11_method_41_code
def yX9_reply : MethodName := ⟨RX9, "reply", "(I)V"⟩
abbrev cX9_placeOf : ByteArray := prog_11_method_42_code
def yX9_placeOf : MethodName := ⟨RX9, "placeOf", "(JJ)I"⟩
abbrev cX9_meet : ByteArray := prog_11_method_43_code
def yX9_meet : MethodName := ⟨RX9, "meet", "()V"⟩
abbrev cX9_stand : ByteArray := prog_11_method_44_code
def yX9_stand : MethodName := ⟨RX9, "stand", "(I)V"⟩
abbrev cX9_meetAll : ByteArray := prog_11_method_45_code
def yX9_meetAll : MethodName := ⟨RX9, "meetAll", "()Z"⟩
abbrev cX9_rankBy : ByteArray := prog_11_method_46_code
def yX9_rankBy : MethodName := ⟨RX9, "rankBy", "(II)I"⟩
abbrev cX9_rankAll : ByteArray := prog_11_method_47_code
def yX9_rankAll : MethodName := ⟨RX9, "rankAll", "()V"⟩
abbrev cX9_meetAfter : ByteArray := prog_11_method_48_code
def yX9_meetAfter : MethodName := ⟨RX9, "meetAfter", "(I)Z"⟩
abbrev cX9_rankOf : ByteArray := prog_11_method_49_code
def yX9_rankOf : MethodName := ⟨RX9, "rankOf", "(II)I"⟩
abbrev cX9_isManner : ByteArray := prog_11_method_50_code
def yX9_isManner : MethodName := ⟨RX9, "isManner", "(I)Z"⟩
abbrev cX9_rank : ByteArray := prog_11_method_51_code
def yX9_rank : MethodName := ⟨RX9, "rank", "(II)I"⟩
abbrev cX9_positionCount : ByteArray := prog_11_method_52_code
def yX9_positionCount : MethodName := ⟨RX9, "positionCount", "(II)I"⟩
abbrev cX9_manners : ByteArray := prog_11_method_53_code
def yX9_manners : MethodName := ⟨RX9, "manners", "(I)I"⟩
abbrev cX9_isPlaying : ByteArray := prog_11_method_54_code
def yX9_isPlaying : MethodName := ⟨RX9, "isPlaying", "()Z"⟩
abbrev cX9_now : ByteArray := prog_11_method_55_code
def yX9_now : MethodName := ⟨RX9, "now", "()V"⟩
abbrev cX9_start : ByteArray := prog_11_method_56_code
def yX9_start : MethodName := ⟨RX9, "start", "(III)V"⟩
abbrev cX9_begin : ByteArray := prog_11_method_57_code
def yX9_begin : MethodName := ⟨RX9, "begin", "(III)I"⟩
abbrev cX9_claims : ByteArray := prog_11_method_58_code
def yX9_claims : MethodName := ⟨RX9, "claims", "()J"⟩
abbrev cX9_defences : ByteArray := prog_11_method_59_code
def yX9_defences : MethodName := ⟨RX9, "defences", "()J"⟩
abbrev cX9_moveCount : ByteArray := prog_11_method_60_code
def yX9_moveCount : MethodName := ⟨RX9, "moveCount", "()I"⟩
abbrev cX9_move : ByteArray := prog_11_method_61_code
def yX9_move : MethodName := ⟨RX9, "move", "(II)I"⟩
abbrev cX9_playOne : ByteArray := prog_11_method_62_code
def yX9_playOne : MethodName := ⟨RX9, "playOne", "(II)I"⟩
abbrev cX9_play : ByteArray := prog_11_method_63_code
def yX9_play : MethodName := ⟨RX9, "play", "(II)I"⟩
abbrev cX9_takeBack : ByteArray := prog_11_method_64_code
def yX9_takeBack : MethodName := ⟨RX9, "takeBack", "()I"⟩
abbrev cX9_rankNow : ByteArray := prog_11_method_65_code
def yX9_rankNow : MethodName := ⟨RX9, "rankNow", "()Z"⟩
abbrev cX9_positionRank : ByteArray := prog_11_method_66_code
def yX9_positionRank : MethodName := ⟨RX9, "positionRank", "()I"⟩
abbrev cX9_bestMove : ByteArray := prog_11_method_67_code
def yX9_bestMove : MethodName := ⟨RX9, "bestMove", "()I"⟩
abbrev cX9_hardestReply : ByteArray := prog_11_method_68_code
def yX9_hardestReply : MethodName := ⟨RX9, "hardestReply", "(I)I"⟩
abbrev cX9_isSlot : ByteArray := prog_11_method_69_code
def yX9_isSlot : MethodName := ⟨RX9, "isSlot", "(I)Z"⟩
abbrev cX9_allocate : ByteArray := prog_11_method_70_code
def yX9_allocate : MethodName := ⟨RX9, "allocate", "(III)I"⟩
abbrev cX9_release : ByteArray := prog_11_method_71_code
def yX9_release : MethodName := ⟨RX9, "release", "(I)I"⟩
abbrev cX9_putElement : ByteArray := prog_11_method_72_code
def yX9_putElement : MethodName := ⟨RX9, "putElement", "(IIJ)I"⟩
abbrev cX9_element : ByteArray := prog_11_method_73_code
def yX9_element : MethodName := ⟨RX9, "element", "(II)J"⟩
abbrev cX9_compute : ByteArray := prog_11_method_74_code
def yX9_compute : MethodName := ⟨RX9, "compute", "(IIII)I"⟩
abbrev cX9_copyElements : ByteArray := prog_11_method_75_code
def yX9_copyElements : MethodName := ⟨RX9, "copyElements", "(IIIII)I"⟩
abbrev cX9_replay : ByteArray := prog_11_method_76_code
def yX9_replay : MethodName := ⟨RX9, "replay", "(III)I"⟩
def RJx145de : String := "java/io/Serializable"
def TJx145de : u_T := fun k => match k with
  | _ => ("", "", "", false)
def tyJx145de : Nat → FieldType := fun k => match k with
  | _ => .int
abbrev wsJx145de0 : List Cond := u_ws RJx145de TJx145de 0
theorem nmJx145de : ∀ a, a < 0 → ∀ b, b < 0 → a ≠ b → (TJx145de a).2.1 ≠ (TJx145de b).2.1 := by decide +kernel
theorem tyJx145de_ok : ∀ k, k < 0 → parseFieldDescriptor (TJx145de k).2.2.1 = some (tyJx145de k) := by decide +kernel
def RJx9f9b0 : String := "java/lang/CharSequence"
def TJx9f9b0 : u_T := fun k => match k with
  | _ => ("", "", "", false)
def tyJx9f9b0 : Nat → FieldType := fun k => match k with
  | _ => .int
abbrev wsJx9f9b00 : List Cond := u_ws RJx9f9b0 TJx9f9b0 0
theorem nmJx9f9b0 : ∀ a, a < 0 → ∀ b, b < 0 → a ≠ b → (TJx9f9b0 a).2.1 ≠ (TJx9f9b0 b).2.1 := by decide +kernel
theorem tyJx9f9b0_ok : ∀ k, k < 0 → parseFieldDescriptor (TJx9f9b0 k).2.2.1 = some (tyJx9f9b0 k) := by decide +kernel
def RJx8e188 : String := "java/lang/Cloneable"
def TJx8e188 : u_T := fun k => match k with
  | _ => ("", "", "", false)
def tyJx8e188 : Nat → FieldType := fun k => match k with
  | _ => .int
abbrev wsJx8e1880 : List Cond := u_ws RJx8e188 TJx8e188 0
theorem nmJx8e188 : ∀ a, a < 0 → ∀ b, b < 0 → a ≠ b → (TJx8e188 a).2.1 ≠ (TJx8e188 b).2.1 := by decide +kernel
theorem tyJx8e188_ok : ∀ k, k < 0 → parseFieldDescriptor (TJx8e188 k).2.2.1 = some (tyJx8e188 k) := by decide +kernel
def RJxb160c : String := "java/lang/Comparable"
def TJxb160c : u_T := fun k => match k with
  | _ => ("", "", "", false)
def tyJxb160c : Nat → FieldType := fun k => match k with
  | _ => .int
abbrev wsJxb160c0 : List Cond := u_ws RJxb160c TJxb160c 0
theorem nmJxb160c : ∀ a, a < 0 → ∀ b, b < 0 → a ≠ b → (TJxb160c a).2.1 ≠ (TJxb160c b).2.1 := by decide +kernel
theorem tyJxb160c_ok : ∀ k, k < 0 → parseFieldDescriptor (TJxb160c k).2.2.1 = some (tyJxb160c k) := by decide +kernel
def RJ9 : String := "java/lang/Math"
def TJ9 : u_T := fun k => match k with
  | _ => ("", "", "", false)
def tyJ9 : Nat → FieldType := fun k => match k with
  | _ => .int
abbrev wsJ90 : List Cond := u_ws RJ9 TJ9 0
theorem nmJ9 : ∀ a, a < 0 → ∀ b, b < 0 → a ≠ b → (TJ9 a).2.1 ≠ (TJ9 b).2.1 := by decide +kernel
theorem tyJ9_ok : ∀ k, k < 0 → parseFieldDescriptor (TJ9 k).2.2.1 = some (tyJ9 k) := by decide +kernel
abbrev cJ9_max_7cf53 : ByteArray := prog_13_method_65_code
def yJ9_max_7cf53 : MethodName := ⟨RJ9, "max", "(II)I"⟩
abbrev cJ9_min_7cf53 : ByteArray := prog_13_method_69_code
def yJ9_min_7cf53 : MethodName := ⟨RJ9, "min", "(II)I"⟩
def RJ0 : String := "java/lang/String"
def TJ0 : u_T := fun k => match k with
  | _ => ("", "", "", false)
def tyJ0 : Nat → FieldType := fun k => match k with
  | _ => .int
abbrev wsJ00 : List Cond := u_ws RJ0 TJ0 0
theorem nmJ0 : ∀ a, a < 0 → ∀ b, b < 0 → a ≠ b → (TJ0 a).2.1 ≠ (TJ0 b).2.1 := by decide +kernel
theorem tyJ0_ok : ∀ k, k < 0 → parseFieldDescriptor (TJ0 k).2.2.1 = some (tyJ0 k) := by decide +kernel
abbrev cJ0_length_8abf5 : ByteArray := prog_14_method_54_code
def yJ0_length_8abf5 : MethodName := ⟨RJ0, "length", "()I"⟩
abbrev cJ0_charAt_5068e : ByteArray := prog_14_method_56_code
def yJ0_charAt_5068e : MethodName := ⟨RJ0, "charAt", "(I)C"⟩
abbrev cJ0_coder_7d493 : ByteArray := prog_14_method_152_code
def yJ0_coder_7d493 : MethodName := ⟨RJ0, "coder", "()B"⟩
abbrev cJ0_isLatin1_aae02 : ByteArray := prog_14_method_154_code
def yJ0_isLatin1_aae02 : MethodName := ⟨RJ0, "isLatin1", "()Z"⟩
abbrev cJ0_checkIndex_df160 : ByteArray := prog_14_method_155_code
def yJ0_checkIndex_df160 : MethodName := ⟨RJ0, "checkIndex", "(II)V"⟩
def RJ1 : String := "java/lang/StringLatin1"
def TJ1 : u_T := fun k => match k with
  | _ => ("", "", "", false)
def tyJ1 : Nat → FieldType := fun k => match k with
  | _ => .int
abbrev wsJ10 : List Cond := u_ws RJ1 TJ1 0
theorem nmJ1 : ∀ a, a < 0 → ∀ b, b < 0 → a ≠ b → (TJ1 a).2.1 ≠ (TJ1 b).2.1 := by decide +kernel
theorem tyJ1_ok : ∀ k, k < 0 → parseFieldDescriptor (TJ1 k).2.2.1 = some (tyJ1 k) := by decide +kernel
abbrev cJ1_charAt_3b067 : ByteArray := prog_15_method_2_code
def yJ1_charAt_3b067 : MethodName := ⟨RJ1, "charAt", "([BI)C"⟩
def RJ2 : String := "java/lang/StringUTF16"
def TJ2 : u_T := fun k => match k with
  | _ => ("", "", "", false)
def tyJ2 : Nat → FieldType := fun k => match k with
  | _ => .int
abbrev wsJ20 : List Cond := u_ws RJ2 TJ2 0
theorem nmJ2 : ∀ a, a < 0 → ∀ b, b < 0 → a ≠ b → (TJ2 a).2.1 ≠ (TJ2 b).2.1 := by decide +kernel
theorem tyJ2_ok : ∀ k, k < 0 → parseFieldDescriptor (TJ2 k).2.2.1 = some (tyJ2 k) := by decide +kernel
abbrev cJ2_getChar_3b067 : ByteArray := prog_16_method_5_code
def yJ2_getChar_3b067 : MethodName := ⟨RJ2, "getChar", "([BI)C"⟩
abbrev cJ2_length_9d52b : ByteArray := prog_16_method_6_code
def yJ2_length_9d52b : MethodName := ⟨RJ2, "length", "([B)I"⟩
abbrev cJ2_charAt_3b067 : ByteArray := prog_16_method_83_code
def yJ2_charAt_3b067 : MethodName := ⟨RJ2, "charAt", "([BI)C"⟩
abbrev cJ2_checkIndex_2214a : ByteArray := prog_16_method_91_code
def yJ2_checkIndex_2214a : MethodName := ⟨RJ2, "checkIndex", "(I[B)V"⟩
def RJ10 : String := "java/lang/System"
def TJ10 : u_T := fun k => match k with
  | _ => ("", "", "", false)
def tyJ10 : Nat → FieldType := fun k => match k with
  | _ => .int
abbrev wsJ100 : List Cond := u_ws RJ10 TJ10 0
theorem nmJ10 : ∀ a, a < 0 → ∀ b, b < 0 → a ≠ b → (TJ10 a).2.1 ≠ (TJ10 b).2.1 := by decide +kernel
theorem tyJ10_ok : ∀ k, k < 0 → parseFieldDescriptor (TJ10 k).2.2.1 = some (tyJ10 k) := by decide +kernel
def RJxfd54e : String := "java/lang/constant/Constable"
def TJxfd54e : u_T := fun k => match k with
  | _ => ("", "", "", false)
def tyJxfd54e : Nat → FieldType := fun k => match k with
  | _ => .int
abbrev wsJxfd54e0 : List Cond := u_ws RJxfd54e TJxfd54e 0
theorem nmJxfd54e : ∀ a, a < 0 → ∀ b, b < 0 → a ≠ b → (TJxfd54e a).2.1 ≠ (TJxfd54e b).2.1 := by decide +kernel
theorem tyJxfd54e_ok : ∀ k, k < 0 → parseFieldDescriptor (TJxfd54e k).2.2.1 = some (tyJxfd54e k) := by decide +kernel
def RJx3cf43 : String := "java/lang/constant/ConstantDesc"
def TJx3cf43 : u_T := fun k => match k with
  | _ => ("", "", "", false)
def tyJx3cf43 : Nat → FieldType := fun k => match k with
  | _ => .int
abbrev wsJx3cf430 : List Cond := u_ws RJx3cf43 TJx3cf43 0
theorem nmJx3cf43 : ∀ a, a < 0 → ∀ b, b < 0 → a ≠ b → (TJx3cf43 a).2.1 ≠ (TJx3cf43 b).2.1 := by decide +kernel
theorem tyJx3cf43_ok : ∀ k, k < 0 → parseFieldDescriptor (TJx3cf43 k).2.2.1 = some (tyJx3cf43 k) := by decide +kernel
def RJ7 : String := "java/util/Arrays"
def TJ7 : u_T := fun k => match k with
  | _ => ("", "", "", false)
def tyJ7 : Nat → FieldType := fun k => match k with
  | _ => .int
abbrev wsJ70 : List Cond := u_ws RJ7 TJ7 0
theorem nmJ7 : ∀ a, a < 0 → ∀ b, b < 0 → a ≠ b → (TJ7 a).2.1 ≠ (TJ7 b).2.1 := by decide +kernel
theorem tyJ7_ok : ∀ k, k < 0 → parseFieldDescriptor (TJ7 k).2.2.1 = some (tyJ7 k) := by decide +kernel
abbrev cJ7_fill_d0a16 : ByteArray := prog_18_method_101_code
def yJ7_fill_d0a16 : MethodName := ⟨RJ7, "fill", "([JJ)V"⟩
abbrev cJ7_fill_53178 : ByteArray := prog_18_method_103_code
def yJ7_fill_53178 : MethodName := ⟨RJ7, "fill", "([II)V"⟩
abbrev cJ7_fill_7f8df : ByteArray := prog_18_method_113_code
def yJ7_fill_7f8df : MethodName := ⟨RJ7, "fill", "([DD)V"⟩
abbrev cJ7_copyOf_59c91 : ByteArray := prog_18_method_123_code
def yJ7_copyOf_59c91 : MethodName := ⟨RJ7, "copyOf", "([II)[I"⟩
def RJ3 : String := "jdk/internal/util/Preconditions"
def TJ3 : u_T := fun k => match k with
  | _ => ("", "", "", false)
def tyJ3 : Nat → FieldType := fun k => match k with
  | _ => .int
abbrev wsJ30 : List Cond := u_ws RJ3 TJ3 0
theorem nmJ3 : ∀ a, a < 0 → ∀ b, b < 0 → a ≠ b → (TJ3 a).2.1 ≠ (TJ3 b).2.1 := by decide +kernel
theorem tyJ3_ok : ∀ k, k < 0 → parseFieldDescriptor (TJ3 k).2.2.1 = some (tyJ3 k) := by decide +kernel
abbrev cJ3_checkIndex_8e157 : ByteArray := prog_19_method_11_code
def yJ3_checkIndex_8e157 : MethodName := ⟨RJ3, "checkIndex", "(IILjava/util/function/BiFunction;)I"⟩
def RL : String := "DialogueGamesLaw"
abbrev cL_law : ByteArray := code
def yL_law : MethodName := ⟨RL, "law", "([I)Z"⟩
abbrev vwCl : List vw_C := [(RX0, TX0, 9), (RX1, TX1, 6), (RX2, TX2, 7), (RX3, TX3, 2), (RX4, TX4, 12), (RX5, TX5, 5), (RX6, TX6, 6), (RX7, TX7, 2), (RX8, TX8, 7), (RX9, TX9, 35)]
/-! ===== END names ===== -/
end
section
/-! the tables of the small machine, printed by wip/whole/gen_tab.py: methods, code rows, links -/
abbrev mRow : Type := Jvm.ClassFile.Instr × Nat × Nat × Nat × Nat × Int32 × Int64
abbrev mTab : Type := List (List (Nat × mRow))
/-- a method: its name, its class (a place in mCnL), its code, its locals, what it returns, its rows by pc / 16 -/
abbrev mMd : Type := MethodName × Nat × ByteArray × Nat × Option FieldType × mTab
def mCnL : List String := ["DialogueGames$Board", "DialogueGames$Dialogue", "DialogueGames$Formulas", "DialogueGames$Input", "DialogueGames$Search", "DialogueGames$Slot", "DialogueGames$TextReader", "DialogueGames$Transformer", "DialogueGames", "DialogueGamesModel", "DialogueGamesLaw", "java/lang/Object", "java/lang/Math", "java/util/Arrays"]
def mCn (o : Nat) : String := mCnL.getD o ""
def mTB : List Cond := lw_tbl.filter goodWord
/-- field types: 0 int, 1 long, 2 reference, 3 boolean -/
def mFtL : List (List Nat) := [[2, 2, 2, 0, 0, 1, 1, 1, 1], [2, 2, 2, 0, 3, 3], [2, 2, 2, 2, 2, 2, 0], [2, 0], [2, 2, 2, 2, 2, 2, 2, 2, 0, 0, 0, 3], [2, 2, 2, 0, 0], [2, 2, 2, 0, 0, 3], [2, 2], [2, 2, 2, 2, 2, 2, 2], [0, 2, 2, 2, 3, 2, 0, 0, 0, 0, 3, 2, 2, 2, 2, 1, 1, 0, 0, 0, 2, 2, 2, 0, 3, 3, 0, 2, 2, 2, 2, 2, 2, 2, 2]]
def mFt (c k : Nat) : Nat := (mFtL.getD c []).getD k 0
def mFd (c k : Nat) : String × String × String × Bool := ((vwCl[c]?).getD ("", fun _ => ("", "", "", false), 0)).2.1 k
def mt_X0_init : mTab := [[(0, (.aload_n 0, 1, 0, 0, 0, 0, 0)), (1, (.invokespecial 5, 4, 1010, 1, 0, 0, 0)), (4, (.aload_n 0, 5, 0, 0, 0, 0, 0)), (5, (.bipush 120, 7, 0, 0, 0, 120, 0)), (7, (.newarray .int, 9, 100, 0, 0, 0, 0)), (9, (.putfield 13, 12, 0, 1, 12, 0, 0)), (12, (.aload_n 0, 13, 0, 0, 0, 0, 0)), (13, (.bipush 120, 15, 0, 0, 0, 120, 0)), (15, (.newarray .int, 17, 100, 0, 0, 0, 0))],
  [(17, (.putfield 17, 20, 0, 2, 12, 0, 0)), (20, (.aload_n 0, 21, 0, 0, 0, 0, 0)), (21, (.aload_n 1, 22, 0, 0, 0, 0, 0)), (22, (.putfield 20, 25, 0, 0, 12, 0, 0)), (25, (.return_, 26, 0, 0, 0, 0, 0))]]
def md_X0_init : mMd := (yX0_init, 0, cX0_init, 2, (none : Option Jvm.ClassFile.FieldType), mt_X0_init)
def mt_X0_setUp : mTab := [[(0, (.aload_n 0, 1, 0, 0, 0, 0, 0)), (1, (.lload_n 1, 2, 0, 0, 0, 0, 0)), (2, (.putfield 24, 5, 0, 5, 1, 0, 0)), (5, (.aload_n 0, 6, 0, 0, 0, 0, 0)), (6, (.lload_n 3, 7, 0, 0, 0, 0, 0)), (7, (.putfield 28, 10, 0, 6, 1, 0, 0)), (10, (.aload_n 0, 11, 0, 0, 0, 0, 0)), (11, (.iconst 0, 12, 0, 0, 0, 0, 0)), (12, (.putfield 31, 15, 0, 3, 0, 0, 0)), (15, (.lload_n 3, 16, 0, 0, 0, 0, 0))],
  [(16, (.lstore 5, 18, 0, 0, 0, 0, 0)), (18, (.iconst 0, 19, 0, 0, 0, 0, 0)), (19, (.istore 7, 21, 0, 0, 0, 0, 0)), (21, (.iload 7, 23, 0, 0, 0, 0, 0)), (23, (.aload_n 0, 24, 0, 0, 0, 0, 0)), (24, (.getfield 20, 27, 0, 0, 2, 0, 0)), (27, (.getfield 35, 30, 2, 6, 0, 0, 0)), (30, (.if_icmp .ge 47, 33, 77, 0, 0, 0, 0))],
  [(33, (.lload 5, 35, 0, 0, 0, 0, 0)), (35, (.lconst 0, 36, 0, 0, 0, 0, 0)), (36, (.lcmp, 37, 0, 0, 0, 0, 0)), (37, (.ifCond .eq 40, 40, 77, 0, 0, 0, 0)), (40, (.lload 5, 42, 0, 0, 0, 0, 0)), (42, (.lconst 1, 43, 0, 0, 0, 0, 0)), (43, (.land, 44, 0, 0, 0, 0, 0)), (44, (.lconst 0, 45, 0, 0, 0, 0, 0)), (45, (.lcmp, 46, 0, 0, 0, 0, 0)), (46, (.ifCond .eq 19, 49, 65, 0, 0, 0, 0))],
  [(49, (.aload_n 0, 50, 0, 0, 0, 0, 0)), (50, (.iload 7, 52, 0, 0, 0, 0, 0)), (52, (.invokevirtual 38, 55, 4, 2, 0, 0, 0)), (55, (.ifCond .eq 10, 58, 65, 0, 0, 0, 0)), (58, (.aload_n 0, 59, 0, 0, 0, 0, 0)), (59, (.iconst 0, 60, 0, 0, 0, 0, 0)), (60, (.iload 7, 62, 0, 0, 0, 0, 0)), (62, (.invokevirtual 42, 65, 3, 3, 0, 0, 0))],
  [(65, (.lload 5, 67, 0, 0, 0, 0, 0)), (67, (.iconst 1, 68, 0, 0, 0, 1, 0)), (68, (.lushr, 69, 0, 0, 0, 0, 0)), (69, (.lstore 5, 71, 0, 0, 0, 0, 0)), (71, (.iinc 7 1, 74, 0, 0, 0, 1, 0)), (74, (.goto (-53), 77, 21, 0, 0, 0, 0)), (77, (.lload_n 1, 78, 0, 0, 0, 0, 0)), (78, (.iconst 4, 79, 0, 0, 0, 4, 0)), (79, (.lushr, 80, 0, 0, 0, 0, 0))],
  [(80, (.lstore 5, 82, 0, 0, 0, 0, 0)), (82, (.iconst 4, 83, 0, 0, 0, 4, 0)), (83, (.istore 7, 85, 0, 0, 0, 0, 0)), (85, (.iload 7, 87, 0, 0, 0, 0, 0)), (87, (.aload_n 0, 88, 0, 0, 0, 0, 0)), (88, (.getfield 20, 91, 0, 0, 2, 0, 0)), (91, (.getfield 35, 94, 2, 6, 0, 0, 0)), (94, (.if_icmp .ge 37, 97, 131, 0, 0, 0, 0))],
  [(97, (.lload 5, 99, 0, 0, 0, 0, 0)), (99, (.lconst 0, 100, 0, 0, 0, 0, 0)), (100, (.lcmp, 101, 0, 0, 0, 0, 0)), (101, (.ifCond .eq 30, 104, 131, 0, 0, 0, 0)), (104, (.lload 5, 106, 0, 0, 0, 0, 0)), (106, (.lconst 1, 107, 0, 0, 0, 0, 0)), (107, (.land, 108, 0, 0, 0, 0, 0)), (108, (.lconst 0, 109, 0, 0, 0, 0, 0)), (109, (.lcmp, 110, 0, 0, 0, 0, 0)), (110, (.ifCond .eq 9, 113, 119, 0, 0, 0, 0))],
  [(113, (.aload_n 0, 114, 0, 0, 0, 0, 0)), (114, (.iload 7, 116, 0, 0, 0, 0, 0)), (116, (.invokevirtual 46, 119, 2, 2, 0, 0, 0)), (119, (.lload 5, 121, 0, 0, 0, 0, 0)), (121, (.iconst 1, 122, 0, 0, 0, 1, 0)), (122, (.lushr, 123, 0, 0, 0, 0, 0)), (123, (.lstore 5, 125, 0, 0, 0, 0, 0)), (125, (.iinc 7 1, 128, 0, 0, 0, 1, 0))],
  [(128, (.goto (-43), 131, 85, 0, 0, 0, 0)), (131, (.return_, 132, 0, 0, 0, 0, 0))]]
def md_X0_setUp : mMd := (yX0_setUp, 0, cX0_setUp, 8, (none : Option Jvm.ClassFile.FieldType), mt_X0_setUp)
def mt_X0_addAttacks : mTab := [[(0, (.aload_n 0, 1, 0, 0, 0, 0, 0)), (1, (.getfield 20, 4, 0, 0, 2, 0, 0)), (4, (.iload_n 1, 5, 0, 0, 0, 0, 0)), (5, (.invokevirtual 50, 8, 20, 2, 2, 0, 0)), (8, (.istore_n 2, 9, 0, 0, 0, 0, 0)), (9, (.iload_n 2, 10, 0, 0, 0, 0, 0)), (10, (.iconst 2, 11, 0, 0, 0, 2, 0)), (11, (.if_icmp .ne 18, 14, 29, 0, 0, 0, 0)), (14, (.aload_n 0, 15, 0, 0, 0, 0, 0)), (15, (.iconst 2, 16, 0, 0, 0, 2, 0))],
  [(16, (.iload_n 1, 17, 0, 0, 0, 0, 0)), (17, (.invokevirtual 42, 20, 3, 3, 0, 0, 0)), (20, (.aload_n 0, 21, 0, 0, 0, 0, 0)), (21, (.iconst 3, 22, 0, 0, 0, 3, 0)), (22, (.iload_n 1, 23, 0, 0, 0, 0, 0)), (23, (.invokevirtual 42, 26, 3, 3, 0, 0, 0)), (26, (.goto 29, 29, 55, 0, 0, 0, 0)), (29, (.iload_n 2, 30, 0, 0, 0, 0, 0)), (30, (.iconst 3, 31, 0, 0, 0, 3, 0)), (31, (.if_icmp .eq 18, 34, 49, 0, 0, 0, 0))],
  [(34, (.aload_n 0, 35, 0, 0, 0, 0, 0)), (35, (.aload_n 0, 36, 0, 0, 0, 0, 0)), (36, (.getfield 20, 39, 0, 0, 2, 0, 0)), (39, (.iload_n 1, 40, 0, 0, 0, 0, 0)), (40, (.invokevirtual 54, 43, 21, 2, 2, 0, 0)), (43, (.invokevirtual 38, 46, 4, 2, 0, 0, 0)), (46, (.ifCond .eq 9, 49, 55, 0, 0, 0, 0))],
  [(49, (.aload_n 0, 50, 0, 0, 0, 0, 0)), (50, (.iconst 1, 51, 0, 0, 0, 1, 0)), (51, (.iload_n 1, 52, 0, 0, 0, 0, 0)), (52, (.invokevirtual 42, 55, 3, 3, 0, 0, 0)), (55, (.return_, 56, 0, 0, 0, 0, 0))]]
def md_X0_addAttacks : mMd := (yX0_addAttacks, 0, cX0_addAttacks, 3, (none : Option Jvm.ClassFile.FieldType), mt_X0_addAttacks)
def mt_X0_addMove : mTab := [[(0, (.aload_n 0, 1, 0, 0, 0, 0, 0)), (1, (.getfield 31, 4, 0, 3, 0, 0, 0)), (4, (.bipush 120, 6, 0, 0, 0, 120, 0)), (6, (.if_icmp .ge 33, 9, 39, 0, 0, 0, 0)), (9, (.aload_n 0, 10, 0, 0, 0, 0, 0)), (10, (.getfield 13, 13, 0, 1, 2, 0, 0)), (13, (.aload_n 0, 14, 0, 0, 0, 0, 0)), (14, (.getfield 31, 17, 0, 3, 0, 0, 0))],
  [(17, (.iload_n 1, 18, 0, 0, 0, 0, 0)), (18, (.iastore, 19, 0, 0, 0, 0, 0)), (19, (.aload_n 0, 20, 0, 0, 0, 0, 0)), (20, (.getfield 17, 23, 0, 2, 2, 0, 0)), (23, (.aload_n 0, 24, 0, 0, 0, 0, 0)), (24, (.getfield 31, 27, 0, 3, 0, 0, 0)), (27, (.iload_n 2, 28, 0, 0, 0, 0, 0)), (28, (.iastore, 29, 0, 0, 0, 0, 0)), (29, (.aload_n 0, 30, 0, 0, 0, 0, 0)), (30, (.dup, 31, 0, 0, 0, 0, 0)), (31, (.getfield 31, 34, 0, 3, 0, 0, 0))],
  [(34, (.iconst 1, 35, 0, 0, 0, 1, 0)), (35, (.iadd, 36, 0, 0, 0, 0, 0)), (36, (.putfield 31, 39, 0, 3, 0, 0, 0)), (39, (.return_, 40, 0, 0, 0, 0, 0))]]
def md_X0_addMove : mMd := (yX0_addMove, 0, cX0_addMove, 3, (none : Option Jvm.ClassFile.FieldType), mt_X0_addMove)
def mt_X0_canClaim : mTab := [[(0, (.iload_n 1, 1, 0, 0, 0, 0, 0)), (1, (.iconst 4, 2, 0, 0, 0, 4, 0)), (2, (.if_icmp .ge 17, 5, 19, 0, 0, 0, 0)), (5, (.aload_n 0, 6, 0, 0, 0, 0, 0)), (6, (.getfield 24, 9, 0, 5, 1, 0, 0)), (9, (.iload_n 1, 10, 0, 0, 0, 0, 0)), (10, (.invokestatic 57, 13, 10, 1, 0, 0, 0)), (13, (.land, 14, 0, 0, 0, 0, 0)), (14, (.lconst 0, 15, 0, 0, 0, 0, 0)), (15, (.lcmp, 16, 0, 0, 0, 0, 0))],
  [(16, (.ifCond .eq 7, 19, 23, 0, 0, 0, 0)), (19, (.iconst 1, 20, 0, 0, 0, 1, 0)), (20, (.goto 4, 23, 24, 0, 0, 0, 0)), (23, (.iconst 0, 24, 0, 0, 0, 0, 0)), (24, (.ireturn, 25, 0, 0, 0, 0, 0))]]
def md_X0_canClaim : mMd := (yX0_canClaim, 0, cX0_canClaim, 2, (some .boolean), mt_X0_canClaim)
def mt_X0_hasMove : mTab := [[(0, (.iload_n 1, 1, 0, 0, 0, 0, 0)), (1, (.ifCond .lt 15, 4, 16, 0, 0, 0, 0)), (4, (.iload_n 1, 5, 0, 0, 0, 0, 0)), (5, (.aload_n 0, 6, 0, 0, 0, 0, 0)), (6, (.getfield 31, 9, 0, 3, 0, 0, 0)), (9, (.if_icmp .ge 7, 12, 16, 0, 0, 0, 0)), (12, (.iconst 1, 13, 0, 0, 0, 1, 0)), (13, (.goto 4, 16, 17, 0, 0, 0, 0))],
  [(16, (.iconst 0, 17, 0, 0, 0, 0, 0)), (17, (.ireturn, 18, 0, 0, 0, 0, 0))]]
def md_X0_hasMove : mMd := (yX0_hasMove, 0, cX0_hasMove, 2, (some .boolean), mt_X0_hasMove)
def mt_X0_repliesTo : mTab := [[(0, (.aload_n 0, 1, 0, 0, 0, 0, 0)), (1, (.iload_n 1, 2, 0, 0, 0, 0, 0)), (2, (.invokevirtual 61, 5, 5, 2, 0, 0, 0)), (5, (.ifCond .ne 5, 8, 10, 0, 0, 0, 0)), (8, (.iconst 0, 9, 0, 0, 0, 0, 0)), (9, (.ireturn, 10, 0, 0, 0, 0, 0)), (10, (.aload_n 0, 11, 0, 0, 0, 0, 0)), (11, (.getfield 17, 14, 0, 2, 2, 0, 0)), (14, (.iload_n 1, 15, 0, 0, 0, 0, 0)), (15, (.iaload, 16, 0, 0, 0, 0, 0))],
  [(16, (.istore_n 2, 17, 0, 0, 0, 0, 0)), (17, (.aload_n 0, 18, 0, 0, 0, 0, 0)), (18, (.getfield 13, 21, 0, 1, 2, 0, 0)), (21, (.iload_n 1, 22, 0, 0, 0, 0, 0)), (22, (.iaload, 23, 0, 0, 0, 0, 0)), (23, (.ifCond .ne 12, 26, 35, 0, 0, 0, 0)), (26, (.aload_n 0, 27, 0, 0, 0, 0, 0)), (27, (.getfield 20, 30, 0, 0, 2, 0, 0)), (30, (.iload_n 2, 31, 0, 0, 0, 0, 0)), (31, (.invokevirtual 64, 34, 23, 2, 2, 0, 0))],
  [(34, (.ireturn, 35, 0, 0, 0, 0, 0)), (35, (.aload_n 0, 36, 0, 0, 0, 0, 0)), (36, (.getfield 20, 39, 0, 0, 2, 0, 0)), (39, (.iload_n 2, 40, 0, 0, 0, 0, 0)), (40, (.invokevirtual 50, 43, 20, 2, 2, 0, 0)), (43, (.tableswitch 45 1 3 #[25, 41, 43], 68, 0, 0, 0, 0, 0))],
  [],
  [(68, (.aload_n 0, 69, 0, 0, 0, 0, 0)), (69, (.getfield 20, 72, 0, 0, 2, 0, 0)), (72, (.aload_n 0, 73, 0, 0, 0, 0, 0)), (73, (.getfield 20, 76, 0, 0, 2, 0, 0)), (76, (.iload_n 2, 77, 0, 0, 0, 0, 0)), (77, (.invokevirtual 54, 80, 21, 2, 2, 0, 0))],
  [(80, (.invokevirtual 64, 83, 23, 2, 2, 0, 0)), (83, (.ireturn, 84, 0, 0, 0, 0, 0)), (84, (.iconst 1, 85, 0, 0, 0, 1, 0)), (85, (.ireturn, 86, 0, 0, 0, 0, 0)), (86, (.iconst 2, 87, 0, 0, 0, 2, 0)), (87, (.ireturn, 88, 0, 0, 0, 0, 0)), (88, (.aload_n 0, 89, 0, 0, 0, 0, 0)), (89, (.getfield 20, 92, 0, 0, 2, 0, 0)), (92, (.aload_n 0, 93, 0, 0, 0, 0, 0)), (93, (.getfield 20, 96, 0, 0, 2, 0, 0))],
  [(96, (.iload_n 2, 97, 0, 0, 0, 0, 0)), (97, (.invokevirtual 54, 100, 21, 2, 2, 0, 0)), (100, (.invokevirtual 64, 103, 23, 2, 2, 0, 0)), (103, (.iconst 1, 104, 0, 0, 0, 1, 0)), (104, (.iadd, 105, 0, 0, 0, 0, 0)), (105, (.ireturn, 106, 0, 0, 0, 0, 0))]]
def md_X0_repliesTo : mMd := (yX0_repliesTo, 0, cX0_repliesTo, 3, (some .int), mt_X0_repliesTo)
def mt_X0_answer : mTab := [[(0, (.aload_n 0, 1, 0, 0, 0, 0, 0)), (1, (.iload_n 1, 2, 0, 0, 0, 0, 0)), (2, (.invokevirtual 61, 5, 5, 2, 0, 0, 0)), (5, (.ifCond .ne 4, 8, 9, 0, 0, 0, 0)), (8, (.return_, 9, 0, 0, 0, 0, 0)), (9, (.aload_n 0, 10, 0, 0, 0, 0, 0)), (10, (.getfield 17, 13, 0, 2, 2, 0, 0)), (13, (.iload_n 1, 14, 0, 0, 0, 0, 0)), (14, (.iaload, 15, 0, 0, 0, 0, 0)), (15, (.istore_n 3, 16, 0, 0, 0, 0, 0))],
  [(16, (.aload_n 0, 17, 0, 0, 0, 0, 0)), (17, (.getfield 13, 20, 0, 1, 2, 0, 0)), (20, (.iload_n 1, 21, 0, 0, 0, 0, 0)), (21, (.iaload, 22, 0, 0, 0, 0, 0)), (22, (.istore 4, 24, 0, 0, 0, 0, 0)), (24, (.aload_n 0, 25, 0, 0, 0, 0, 0)), (25, (.getfield 20, 28, 0, 0, 2, 0, 0)), (28, (.iload_n 3, 29, 0, 0, 0, 0, 0)), (29, (.invokevirtual 54, 32, 21, 2, 2, 0, 0))],
  [(32, (.istore 5, 34, 0, 0, 0, 0, 0)), (34, (.aload_n 0, 35, 0, 0, 0, 0, 0)), (35, (.getfield 20, 38, 0, 0, 2, 0, 0)), (38, (.iload_n 3, 39, 0, 0, 0, 0, 0)), (39, (.invokevirtual 67, 42, 22, 2, 2, 0, 0)), (42, (.istore 6, 44, 0, 0, 0, 0, 0)), (44, (.iload 4, 46, 0, 0, 0, 0, 0)), (46, (.ifCond .ne 12, 49, 58, 0, 0, 0, 0))],
  [(49, (.aload_n 0, 50, 0, 0, 0, 0, 0)), (50, (.iload_n 3, 51, 0, 0, 0, 0, 0)), (51, (.iload_n 2, 52, 0, 0, 0, 0, 0)), (52, (.invokevirtual 70, 55, 9, 3, 0, 0, 0)), (55, (.goto 92, 58, 147, 0, 0, 0, 0)), (58, (.iload 4, 60, 0, 0, 0, 0, 0)), (60, (.iconst 2, 61, 0, 0, 0, 2, 0)), (61, (.if_icmp .ne 12, 64, 73, 0, 0, 0, 0))],
  [(64, (.aload_n 0, 65, 0, 0, 0, 0, 0)), (65, (.iload 5, 67, 0, 0, 0, 0, 0)), (67, (.invokevirtual 73, 70, 8, 2, 0, 0, 0)), (70, (.goto 77, 73, 147, 0, 0, 0, 0)), (73, (.iload 4, 75, 0, 0, 0, 0, 0)), (75, (.iconst 3, 76, 0, 0, 0, 3, 0)), (76, (.if_icmp .ne 12, 79, 88, 0, 0, 0, 0)), (79, (.aload_n 0, 80, 0, 0, 0, 0, 0))],
  [(80, (.iload 6, 82, 0, 0, 0, 0, 0)), (82, (.invokevirtual 73, 85, 8, 2, 0, 0, 0)), (85, (.goto 62, 88, 147, 0, 0, 0, 0)), (88, (.aload_n 0, 89, 0, 0, 0, 0, 0)), (89, (.getfield 20, 92, 0, 0, 2, 0, 0)), (92, (.iload_n 3, 93, 0, 0, 0, 0, 0)), (93, (.invokevirtual 50, 96, 20, 2, 2, 0, 0))],
  [(96, (.iconst 3, 97, 0, 0, 0, 3, 0)), (97, (.if_icmp .ne 21, 100, 118, 0, 0, 0, 0)), (100, (.aload_n 0, 101, 0, 0, 0, 0, 0)), (101, (.iload_n 2, 102, 0, 0, 0, 0, 0)), (102, (.ifCond .ne 8, 105, 110, 0, 0, 0, 0)), (105, (.iload 5, 107, 0, 0, 0, 0, 0)), (107, (.goto 5, 110, 112, 0, 0, 0, 0)), (110, (.iload 6, 112, 0, 0, 0, 0, 0))],
  [(112, (.invokevirtual 73, 115, 8, 2, 0, 0, 0)), (115, (.goto 32, 118, 147, 0, 0, 0, 0)), (118, (.iload_n 2, 119, 0, 0, 0, 0, 0)), (119, (.aload_n 0, 120, 0, 0, 0, 0, 0)), (120, (.getfield 20, 123, 0, 0, 2, 0, 0)), (123, (.iload 5, 125, 0, 0, 0, 0, 0)), (125, (.invokevirtual 64, 128, 23, 2, 2, 0, 0))],
  [(128, (.if_icmp .ge 13, 131, 141, 0, 0, 0, 0)), (131, (.aload_n 0, 132, 0, 0, 0, 0, 0)), (132, (.iload 5, 134, 0, 0, 0, 0, 0)), (134, (.iload_n 2, 135, 0, 0, 0, 0, 0)), (135, (.invokevirtual 70, 138, 9, 3, 0, 0, 0)), (138, (.goto 9, 141, 147, 0, 0, 0, 0)), (141, (.aload_n 0, 142, 0, 0, 0, 0, 0)), (142, (.iload 6, 144, 0, 0, 0, 0, 0))],
  [(144, (.invokevirtual 73, 147, 8, 2, 0, 0, 0)), (147, (.return_, 148, 0, 0, 0, 0, 0))]]
def md_X0_answer : mMd := (yX0_answer, 0, cX0_answer, 7, (none : Option Jvm.ClassFile.FieldType), mt_X0_answer)
def mt_X0_concede : mTab := [[(0, (.aload_n 0, 1, 0, 0, 0, 0, 0)), (1, (.aload_n 0, 2, 0, 0, 0, 0, 0)), (2, (.getfield 24, 5, 0, 5, 1, 0, 0)), (5, (.iload_n 1, 6, 0, 0, 0, 0, 0)), (6, (.invokestatic 57, 9, 10, 1, 0, 0, 0)), (9, (.lor, 10, 0, 0, 0, 0, 0)), (10, (.putfield 76, 13, 0, 7, 1, 0, 0)), (13, (.aload_n 0, 14, 0, 0, 0, 0, 0)), (14, (.aload_n 0, 15, 0, 0, 0, 0, 0)), (15, (.getfield 28, 18, 0, 6, 1, 0, 0))],
  [(18, (.putfield 79, 21, 0, 8, 1, 0, 0)), (21, (.return_, 22, 0, 0, 0, 0, 0))]]
def md_X0_concede : mMd := (yX0_concede, 0, cX0_concede, 2, (none : Option Jvm.ClassFile.FieldType), mt_X0_concede)
def mt_X0_attack : mTab := [[(0, (.aload_n 0, 1, 0, 0, 0, 0, 0)), (1, (.getfield 20, 4, 0, 0, 2, 0, 0)), (4, (.iload_n 1, 5, 0, 0, 0, 0, 0)), (5, (.invokevirtual 54, 8, 21, 2, 2, 0, 0)), (8, (.invokestatic 57, 11, 10, 1, 0, 0, 0)), (11, (.lstore_n 3, 12, 0, 0, 0, 0, 0)), (12, (.aload_n 0, 13, 0, 0, 0, 0, 0)), (13, (.getfield 20, 16, 0, 0, 2, 0, 0))],
  [(16, (.iload_n 1, 17, 0, 0, 0, 0, 0)), (17, (.invokevirtual 67, 20, 22, 2, 2, 0, 0)), (20, (.invokestatic 57, 23, 10, 1, 0, 0, 0)), (23, (.lstore 5, 25, 0, 0, 0, 0, 0)), (25, (.lconst 0, 26, 0, 0, 0, 0, 0)), (26, (.lstore 7, 28, 0, 0, 0, 0, 0)), (28, (.lconst 0, 29, 0, 0, 0, 0, 0)), (29, (.lstore 9, 31, 0, 0, 0, 0, 0)), (31, (.aload_n 0, 32, 0, 0, 0, 0, 0))],
  [(32, (.getfield 20, 35, 0, 0, 2, 0, 0)), (35, (.iload_n 1, 36, 0, 0, 0, 0, 0)), (36, (.invokevirtual 50, 39, 20, 2, 2, 0, 0)), (39, (.tableswitch 69 1 4 #[29, 35, 50, 59], 68, 0, 0, 0, 0, 0))],
  [],
  [(68, (.lload_n 3, 69, 0, 0, 0, 0, 0)), (69, (.lstore 7, 71, 0, 0, 0, 0, 0)), (71, (.goto 37, 74, 108, 0, 0, 0, 0)), (74, (.iload_n 2, 75, 0, 0, 0, 0, 0)), (75, (.ifCond .ne 7, 78, 82, 0, 0, 0, 0)), (78, (.lload_n 3, 79, 0, 0, 0, 0, 0)), (79, (.goto 5, 82, 84, 0, 0, 0, 0))],
  [(82, (.lload 5, 84, 0, 0, 0, 0, 0)), (84, (.lstore 9, 86, 0, 0, 0, 0, 0)), (86, (.goto 22, 89, 108, 0, 0, 0, 0)), (89, (.lload_n 3, 90, 0, 0, 0, 0, 0)), (90, (.lload 5, 92, 0, 0, 0, 0, 0)), (92, (.lor, 93, 0, 0, 0, 0, 0)), (93, (.lstore 9, 95, 0, 0, 0, 0, 0)), (95, (.goto 13, 98, 108, 0, 0, 0, 0))],
  [(98, (.lload_n 3, 99, 0, 0, 0, 0, 0)), (99, (.lstore 7, 101, 0, 0, 0, 0, 0)), (101, (.lload 5, 103, 0, 0, 0, 0, 0)), (103, (.lstore 9, 105, 0, 0, 0, 0, 0)), (105, (.goto 3, 108, 108, 0, 0, 0, 0)), (108, (.aload_n 0, 109, 0, 0, 0, 0, 0)), (109, (.aload_n 0, 110, 0, 0, 0, 0, 0)), (110, (.getfield 24, 113, 0, 5, 1, 0, 0))],
  [(113, (.lload 7, 115, 0, 0, 0, 0, 0)), (115, (.lor, 116, 0, 0, 0, 0, 0)), (116, (.putfield 76, 119, 0, 7, 1, 0, 0)), (119, (.aload_n 0, 120, 0, 0, 0, 0, 0)), (120, (.aload_n 0, 121, 0, 0, 0, 0, 0)), (121, (.getfield 82, 124, 0, 4, 0, 0, 0)), (124, (.iconst 1, 125, 0, 0, 0, 1, 0)), (125, (.if_icmp .ne 13, 128, 138, 0, 0, 0, 0))],
  [(128, (.aload_n 0, 129, 0, 0, 0, 0, 0)), (129, (.getfield 28, 132, 0, 6, 1, 0, 0)), (132, (.lload 9, 134, 0, 0, 0, 0, 0)), (134, (.lor, 135, 0, 0, 0, 0, 0)), (135, (.goto 5, 138, 140, 0, 0, 0, 0)), (138, (.lload 9, 140, 0, 0, 0, 0, 0)), (140, (.putfield 79, 143, 0, 8, 1, 0, 0)), (143, (.return_, 144, 0, 0, 0, 0, 0))]]
def md_X0_attack : mMd := (yX0_attack, 0, cX0_attack, 11, (none : Option Jvm.ClassFile.FieldType), mt_X0_attack)
def mt_X0_bitOf : mTab := [[(0, (.iload_n 0, 1, 0, 0, 0, 0, 0)), (1, (.ifCond .lt 9, 4, 10, 0, 0, 0, 0)), (4, (.lconst 1, 5, 0, 0, 0, 0, 0)), (5, (.iload_n 0, 6, 0, 0, 0, 0, 0)), (6, (.lshl, 7, 0, 0, 0, 0, 0)), (7, (.goto 4, 10, 11, 0, 0, 0, 0)), (10, (.lconst 0, 11, 0, 0, 0, 0, 0)), (11, (.lreturn, 12, 0, 0, 0, 0, 0))]]
def md_X0_bitOf : mMd := (yX0_bitOf, 0, cX0_bitOf, 1, (some .long), mt_X0_bitOf)
def mt_X1_init : mTab := [[(0, (.aload_n 0, 1, 0, 0, 0, 0, 0)), (1, (.invokespecial 3, 4, 1010, 1, 0, 0, 0)), (4, (.aload_n 0, 5, 0, 0, 0, 0, 0)), (5, (.bipush 20, 7, 0, 0, 0, 20, 0)), (7, (.newarray .long, 9, 101, 0, 0, 0, 0)), (9, (.putfield 11, 12, 1, 1, 12, 0, 0)), (12, (.aload_n 0, 13, 0, 0, 0, 0, 0)), (13, (.bipush 20, 15, 0, 0, 0, 20, 0)), (15, (.newarray .long, 17, 101, 0, 0, 0, 0))],
  [(17, (.putfield 15, 20, 1, 2, 12, 0, 0)), (20, (.aload_n 0, 21, 0, 0, 0, 0, 0)), (21, (.new 18, 24, 0, 9, 0, 0, 0)), (24, (.dup, 25, 0, 0, 0, 0, 0)), (25, (.aload_n 1, 26, 0, 0, 0, 0, 0)), (26, (.invokespecial 20, 29, 0, 2, 0, 0, 0)), (29, (.putfield 23, 32, 1, 0, 12, 0, 0))],
  [(32, (.return_, 33, 0, 0, 0, 0, 0))]]
def md_X1_init : mMd := (yX1_init, 1, cX1_init, 2, (none : Option Jvm.ClassFile.FieldType), mt_X1_init)
def mt_X1_isOn : mTab := [[(0, (.aload_n 0, 1, 0, 0, 0, 0, 0)), (1, (.getfield 27, 4, 1, 4, 3, 0, 0)), (4, (.ifCond .eq 14, 7, 18, 0, 0, 0, 0)), (7, (.aload_n 0, 8, 0, 0, 0, 0, 0)), (8, (.getfield 31, 11, 1, 5, 3, 0, 0)), (11, (.ifCond .ne 7, 14, 18, 0, 0, 0, 0)), (14, (.iconst 1, 15, 0, 0, 0, 1, 0)), (15, (.goto 4, 18, 19, 0, 0, 0, 0))],
  [(18, (.iconst 0, 19, 0, 0, 0, 0, 0)), (19, (.ireturn, 20, 0, 0, 0, 0, 0))]]
def md_X1_isOn : mMd := (yX1_isOn, 1, cX1_isOn, 1, (some .boolean), mt_X1_isOn)
def mt_X1_drop : mTab := [[(0, (.aload_n 0, 1, 0, 0, 0, 0, 0)), (1, (.iconst 0, 2, 0, 0, 0, 0, 0)), (2, (.putfield 27, 5, 1, 4, 3, 0, 0)), (5, (.aload_n 0, 6, 0, 0, 0, 0, 0)), (6, (.iconst 0, 7, 0, 0, 0, 0, 0)), (7, (.putfield 31, 10, 1, 5, 3, 0, 0)), (10, (.aload_n 0, 11, 0, 0, 0, 0, 0)), (11, (.iconst 0, 12, 0, 0, 0, 0, 0)), (12, (.putfield 34, 15, 1, 3, 0, 0, 0)), (15, (.return_, 16, 0, 0, 0, 0, 0))]]
def md_X1_drop : mMd := (yX1_drop, 1, cX1_drop, 1, (none : Option Jvm.ClassFile.FieldType), mt_X1_drop)
def mt_X1_open : mTab := [[(0, (.aload_n 0, 1, 0, 0, 0, 0, 0)), (1, (.invokevirtual 38, 4, 13, 1, 1, 0, 0)), (4, (.aload_n 0, 5, 0, 0, 0, 0, 0)), (5, (.iconst 1, 6, 0, 0, 0, 1, 0)), (6, (.putfield 27, 9, 1, 4, 3, 0, 0)), (9, (.aload_n 0, 10, 0, 0, 0, 0, 0)), (10, (.getfield 23, 13, 1, 0, 2, 0, 0)), (13, (.iload_n 2, 14, 0, 0, 0, 0, 0)), (14, (.putfield 41, 17, 0, 4, 0, 0, 0))],
  [(17, (.aload_n 0, 18, 0, 0, 0, 0, 0)), (18, (.getfield 23, 21, 1, 0, 2, 0, 0)), (21, (.lconst 0, 22, 0, 0, 0, 0, 0)), (22, (.putfield 44, 25, 0, 5, 1, 0, 0)), (25, (.aload_n 0, 26, 0, 0, 0, 0, 0)), (26, (.getfield 23, 29, 1, 0, 2, 0, 0)), (29, (.lconst 0, 30, 0, 0, 0, 0, 0)), (30, (.putfield 48, 33, 0, 6, 1, 0, 0))],
  [(33, (.aload_n 0, 34, 0, 0, 0, 0, 0)), (34, (.getfield 23, 37, 1, 0, 2, 0, 0)), (37, (.iload_n 1, 38, 0, 0, 0, 0, 0)), (38, (.iload_n 3, 39, 0, 0, 0, 0, 0)), (39, (.invokevirtual 51, 42, 9, 3, 0, 0, 0)), (42, (.aload_n 0, 43, 0, 0, 0, 0, 0)), (43, (.getfield 23, 46, 1, 0, 2, 0, 0)), (46, (.aload_n 0, 47, 0, 0, 0, 0, 0)), (47, (.getfield 23, 50, 1, 0, 2, 0, 0))],
  [(50, (.getfield 55, 53, 0, 7, 1, 0, 0)), (53, (.aload_n 0, 54, 0, 0, 0, 0, 0)), (54, (.getfield 23, 57, 1, 0, 2, 0, 0)), (57, (.getfield 58, 60, 0, 8, 1, 0, 0)), (60, (.invokevirtual 61, 63, 1, 3, 0, 0, 0)), (63, (.return_, 64, 0, 0, 0, 0, 0))]]
def md_X1_open : mMd := (yX1_open, 1, cX1_open, 4, (none : Option Jvm.ClassFile.FieldType), mt_X1_open)
def mt_X1_advance : mTab := [[(0, (.aload_n 0, 1, 0, 0, 0, 0, 0)), (1, (.invokevirtual 65, 4, 12, 1, 1, 0, 0)), (4, (.ifCond .ne 6, 7, 10, 0, 0, 0, 0)), (7, (.bipush (-7), 9, 0, 0, 0, (-7), 0)), (9, (.ireturn, 10, 0, 0, 0, 0, 0)), (10, (.aload_n 0, 11, 0, 0, 0, 0, 0)), (11, (.getfield 23, 14, 1, 0, 2, 0, 0)), (14, (.iload_n 1, 15, 0, 0, 0, 0, 0)), (15, (.invokevirtual 69, 18, 5, 2, 0, 0, 0))],
  [(18, (.ifCond .ne 6, 21, 24, 0, 0, 0, 0)), (21, (.bipush (-5), 23, 0, 0, 0, (-5), 0)), (23, (.ireturn, 24, 0, 0, 0, 0, 0)), (24, (.aload_n 0, 25, 0, 0, 0, 0, 0)), (25, (.getfield 23, 28, 1, 0, 2, 0, 0)), (28, (.iload_n 1, 29, 0, 0, 0, 0, 0)), (29, (.invokevirtual 73, 32, 6, 2, 0, 0, 0))],
  [(32, (.istore_n 3, 33, 0, 0, 0, 0, 0)), (33, (.iload_n 3, 34, 0, 0, 0, 0, 0)), (34, (.ifCond .le 14, 37, 48, 0, 0, 0, 0)), (37, (.iload_n 2, 38, 0, 0, 0, 0, 0)), (38, (.ifCond .lt 8, 41, 46, 0, 0, 0, 0)), (41, (.iload_n 2, 42, 0, 0, 0, 0, 0)), (42, (.iload_n 3, 43, 0, 0, 0, 0, 0)), (43, (.if_icmp .lt 5, 46, 48, 0, 0, 0, 0)), (46, (.iconst (-1), 47, 0, 0, 0, (-1), 0)), (47, (.ireturn, 48, 0, 0, 0, 0, 0))],
  [(48, (.aload_n 0, 49, 0, 0, 0, 0, 0)), (49, (.getfield 34, 52, 1, 3, 0, 0, 0)), (52, (.bipush 20, 54, 0, 0, 0, 20, 0)), (54, (.if_icmp .lt 6, 57, 60, 0, 0, 0, 0)), (57, (.bipush (-3), 59, 0, 0, 0, (-3), 0)), (59, (.ireturn, 60, 0, 0, 0, 0, 0)), (60, (.aload_n 0, 61, 0, 0, 0, 0, 0)), (61, (.getfield 11, 64, 1, 1, 2, 0, 0))],
  [(64, (.aload_n 0, 65, 0, 0, 0, 0, 0)), (65, (.getfield 34, 68, 1, 3, 0, 0, 0)), (68, (.aload_n 0, 69, 0, 0, 0, 0, 0)), (69, (.getfield 23, 72, 1, 0, 2, 0, 0)), (72, (.getfield 44, 75, 0, 5, 1, 0, 0)), (75, (.lastore, 76, 0, 0, 0, 0, 0)), (76, (.aload_n 0, 77, 0, 0, 0, 0, 0)), (77, (.getfield 15, 80, 1, 2, 2, 0, 0))],
  [(80, (.aload_n 0, 81, 0, 0, 0, 0, 0)), (81, (.getfield 34, 84, 1, 3, 0, 0, 0)), (84, (.aload_n 0, 85, 0, 0, 0, 0, 0)), (85, (.getfield 23, 88, 1, 0, 2, 0, 0)), (88, (.getfield 48, 91, 0, 6, 1, 0, 0)), (91, (.lastore, 92, 0, 0, 0, 0, 0)), (92, (.aload_n 0, 93, 0, 0, 0, 0, 0)), (93, (.dup, 94, 0, 0, 0, 0, 0)), (94, (.getfield 34, 97, 1, 3, 0, 0, 0))],
  [(97, (.iconst 1, 98, 0, 0, 0, 1, 0)), (98, (.iadd, 99, 0, 0, 0, 0, 0)), (99, (.putfield 34, 102, 1, 3, 0, 0, 0)), (102, (.iload_n 3, 103, 0, 0, 0, 0, 0)), (103, (.ifCond .ne 12, 106, 115, 0, 0, 0, 0)), (106, (.aload_n 0, 107, 0, 0, 0, 0, 0)), (107, (.iconst 1, 108, 0, 0, 0, 1, 0)), (108, (.putfield 31, 111, 1, 5, 3, 0, 0)), (111, (.sipush 1000, 114, 0, 0, 0, 1000, 0))],
  [(114, (.ireturn, 115, 0, 0, 0, 0, 0)), (115, (.aload_n 0, 116, 0, 0, 0, 0, 0)), (116, (.getfield 23, 119, 1, 0, 2, 0, 0)), (119, (.iload_n 1, 120, 0, 0, 0, 0, 0)), (120, (.iload_n 2, 121, 0, 0, 0, 0, 0)), (121, (.invokevirtual 77, 124, 7, 3, 0, 0, 0)), (124, (.aload_n 0, 125, 0, 0, 0, 0, 0)), (125, (.getfield 23, 128, 1, 0, 2, 0, 0))],
  [(128, (.aload_n 0, 129, 0, 0, 0, 0, 0)), (129, (.getfield 23, 132, 1, 0, 2, 0, 0)), (132, (.getfield 55, 135, 0, 7, 1, 0, 0)), (135, (.aload_n 0, 136, 0, 0, 0, 0, 0)), (136, (.getfield 23, 139, 1, 0, 2, 0, 0)), (139, (.getfield 58, 142, 0, 8, 1, 0, 0)), (142, (.invokevirtual 61, 145, 1, 3, 0, 0, 0))],
  [(145, (.aload_n 0, 146, 0, 0, 0, 0, 0)), (146, (.getfield 23, 149, 1, 0, 2, 0, 0)), (149, (.getfield 80, 152, 0, 3, 0, 0, 0)), (152, (.ireturn, 153, 0, 0, 0, 0, 0))]]
def md_X1_advance : mMd := (yX1_advance, 1, cX1_advance, 4, (some .int), mt_X1_advance)
def mt_X1_stepBack : mTab := [[(0, (.aload_n 0, 1, 0, 0, 0, 0, 0)), (1, (.getfield 34, 4, 1, 3, 0, 0, 0)), (4, (.ifCond .le 12, 7, 16, 0, 0, 0, 0)), (7, (.aload_n 0, 8, 0, 0, 0, 0, 0)), (8, (.getfield 34, 11, 1, 3, 0, 0, 0)), (11, (.bipush 20, 13, 0, 0, 0, 20, 0)), (13, (.if_icmp .le 5, 16, 18, 0, 0, 0, 0))],
  [(16, (.iconst 0, 17, 0, 0, 0, 0, 0)), (17, (.ireturn, 18, 0, 0, 0, 0, 0)), (18, (.aload_n 0, 19, 0, 0, 0, 0, 0)), (19, (.dup, 20, 0, 0, 0, 0, 0)), (20, (.getfield 34, 23, 1, 3, 0, 0, 0)), (23, (.iconst 1, 24, 0, 0, 0, 1, 0)), (24, (.isub, 25, 0, 0, 0, 0, 0)), (25, (.putfield 34, 28, 1, 3, 0, 0, 0)), (28, (.aload_n 0, 29, 0, 0, 0, 0, 0)), (29, (.iconst 0, 30, 0, 0, 0, 0, 0)), (30, (.putfield 31, 33, 1, 5, 3, 0, 0))],
  [(33, (.aload_n 0, 34, 0, 0, 0, 0, 0)), (34, (.getfield 23, 37, 1, 0, 2, 0, 0)), (37, (.aload_n 0, 38, 0, 0, 0, 0, 0)), (38, (.getfield 11, 41, 1, 1, 2, 0, 0)), (41, (.aload_n 0, 42, 0, 0, 0, 0, 0)), (42, (.getfield 34, 45, 1, 3, 0, 0, 0)), (45, (.laload, 46, 0, 0, 0, 0, 0)), (46, (.aload_n 0, 47, 0, 0, 0, 0, 0)), (47, (.getfield 15, 50, 1, 2, 2, 0, 0))],
  [(50, (.aload_n 0, 51, 0, 0, 0, 0, 0)), (51, (.getfield 34, 54, 1, 3, 0, 0, 0)), (54, (.laload, 55, 0, 0, 0, 0, 0)), (55, (.invokevirtual 61, 58, 1, 3, 0, 0, 0)), (58, (.iconst 1, 59, 0, 0, 0, 1, 0)), (59, (.ireturn, 60, 0, 0, 0, 0, 0))]]
def md_X1_stepBack : mMd := (yX1_stepBack, 1, cX1_stepBack, 1, (some .boolean), mt_X1_stepBack)
def mt_X2_init : mTab := [[(0, (.aload_n 0, 1, 0, 0, 0, 0, 0)), (1, (.invokespecial 3, 4, 1010, 1, 0, 0, 0)), (4, (.aload_n 0, 5, 0, 0, 0, 0, 0)), (5, (.bipush 40, 7, 0, 0, 0, 40, 0)), (7, (.newarray .int, 9, 100, 0, 0, 0, 0)), (9, (.putfield 11, 12, 2, 0, 12, 0, 0)), (12, (.aload_n 0, 13, 0, 0, 0, 0, 0)), (13, (.bipush 40, 15, 0, 0, 0, 40, 0)), (15, (.newarray .int, 17, 100, 0, 0, 0, 0))],
  [(17, (.putfield 15, 20, 2, 1, 12, 0, 0)), (20, (.aload_n 0, 21, 0, 0, 0, 0, 0)), (21, (.bipush 40, 23, 0, 0, 0, 40, 0)), (23, (.newarray .int, 25, 100, 0, 0, 0, 0)), (25, (.putfield 18, 28, 2, 2, 12, 0, 0)), (28, (.aload_n 0, 29, 0, 0, 0, 0, 0)), (29, (.bipush 40, 31, 0, 0, 0, 40, 0)), (31, (.newarray .int, 33, 100, 0, 0, 0, 0))],
  [(33, (.putfield 21, 36, 2, 3, 12, 0, 0)), (36, (.aload_n 0, 37, 0, 0, 0, 0, 0)), (37, (.bipush 40, 39, 0, 0, 0, 40, 0)), (39, (.newarray .int, 41, 100, 0, 0, 0, 0)), (41, (.putfield 24, 44, 2, 4, 12, 0, 0)), (44, (.aload_n 0, 45, 0, 0, 0, 0, 0)), (45, (.bipush 40, 47, 0, 0, 0, 40, 0)), (47, (.newarray .long, 49, 101, 0, 0, 0, 0))],
  [(49, (.putfield 27, 52, 2, 5, 12, 0, 0)), (52, (.iconst 0, 53, 0, 0, 0, 0, 0)), (53, (.istore_n 1, 54, 0, 0, 0, 0, 0)), (54, (.iload_n 1, 55, 0, 0, 0, 0, 0)), (55, (.iconst 4, 56, 0, 0, 0, 4, 0)), (56, (.if_icmp .ge 56, 59, 112, 0, 0, 0, 0)), (59, (.aload_n 0, 60, 0, 0, 0, 0, 0)), (60, (.getfield 11, 63, 2, 0, 2, 0, 0)), (63, (.iload_n 1, 64, 0, 0, 0, 0, 0))],
  [(64, (.iconst 0, 65, 0, 0, 0, 0, 0)), (65, (.iastore, 66, 0, 0, 0, 0, 0)), (66, (.aload_n 0, 67, 0, 0, 0, 0, 0)), (67, (.getfield 15, 70, 2, 1, 2, 0, 0)), (70, (.iload_n 1, 71, 0, 0, 0, 0, 0)), (71, (.iconst (-1), 72, 0, 0, 0, (-1), 0)), (72, (.iastore, 73, 0, 0, 0, 0, 0)), (73, (.aload_n 0, 74, 0, 0, 0, 0, 0)), (74, (.getfield 18, 77, 2, 2, 2, 0, 0)), (77, (.iload_n 1, 78, 0, 0, 0, 0, 0)), (78, (.iconst (-1), 79, 0, 0, 0, (-1), 0)), (79, (.iastore, 80, 0, 0, 0, 0, 0))],
  [(80, (.aload_n 0, 81, 0, 0, 0, 0, 0)), (81, (.getfield 21, 84, 2, 3, 2, 0, 0)), (84, (.iload_n 1, 85, 0, 0, 0, 0, 0)), (85, (.iconst 1, 86, 0, 0, 0, 1, 0)), (86, (.iastore, 87, 0, 0, 0, 0, 0)), (87, (.aload_n 0, 88, 0, 0, 0, 0, 0)), (88, (.getfield 24, 91, 2, 4, 2, 0, 0)), (91, (.iload_n 1, 92, 0, 0, 0, 0, 0)), (92, (.iload_n 1, 93, 0, 0, 0, 0, 0)), (93, (.invokestatic 31, 96, 18, 1, 0, 0, 0))],
  [(96, (.iastore, 97, 0, 0, 0, 0, 0)), (97, (.aload_n 0, 98, 0, 0, 0, 0, 0)), (98, (.getfield 27, 101, 2, 5, 2, 0, 0)), (101, (.iload_n 1, 102, 0, 0, 0, 0, 0)), (102, (.lconst 1, 103, 0, 0, 0, 0, 0)), (103, (.iload_n 1, 104, 0, 0, 0, 0, 0)), (104, (.lshl, 105, 0, 0, 0, 0, 0)), (105, (.lastore, 106, 0, 0, 0, 0, 0)), (106, (.iinc 1 1, 109, 0, 0, 0, 1, 0)), (109, (.goto (-55), 112, 54, 0, 0, 0, 0))],
  [(112, (.aload_n 0, 113, 0, 0, 0, 0, 0)), (113, (.iconst 4, 114, 0, 0, 0, 4, 0)), (114, (.putfield 35, 117, 2, 6, 0, 0, 0)), (117, (.return_, 118, 0, 0, 0, 0, 0))]]
def md_X2_init : mMd := (yX2_init, 2, cX2_init, 2, (none : Option Jvm.ClassFile.FieldType), mt_X2_init)
def mt_X2_atomTable : mTab := [[(0, (.iconst 0, 1, 0, 0, 0, 0, 0)), (1, (.istore_n 1, 2, 0, 0, 0, 0, 0)), (2, (.iconst 0, 3, 0, 0, 0, 0, 0)), (3, (.istore_n 2, 4, 0, 0, 0, 0, 0)), (4, (.iload_n 2, 5, 0, 0, 0, 0, 0)), (5, (.bipush 16, 7, 0, 0, 0, 16, 0)), (7, (.if_icmp .ge 19, 10, 26, 0, 0, 0, 0)), (10, (.iload_n 1, 11, 0, 0, 0, 0, 0)), (11, (.iload_n 2, 12, 0, 0, 0, 0, 0)), (12, (.iload_n 0, 13, 0, 0, 0, 0, 0)), (13, (.ishr, 14, 0, 0, 0, 0, 0)), (14, (.iconst 1, 15, 0, 0, 0, 1, 0)), (15, (.iand, 16, 0, 0, 0, 0, 0))],
  [(16, (.iload_n 2, 17, 0, 0, 0, 0, 0)), (17, (.ishl, 18, 0, 0, 0, 0, 0)), (18, (.ior, 19, 0, 0, 0, 0, 0)), (19, (.istore_n 1, 20, 0, 0, 0, 0, 0)), (20, (.iinc 2 1, 23, 0, 0, 0, 1, 0)), (23, (.goto (-19), 26, 4, 0, 0, 0, 0)), (26, (.iload_n 1, 27, 0, 0, 0, 0, 0)), (27, (.ireturn, 28, 0, 0, 0, 0, 0))]]
def md_X2_atomTable : mMd := (yX2_atomTable, 2, cX2_atomTable, 3, (some .int), mt_X2_atomTable)
def mt_X2_has : mTab := [[(0, (.iload_n 1, 1, 0, 0, 0, 0, 0)), (1, (.ifCond .lt 15, 4, 16, 0, 0, 0, 0)), (4, (.iload_n 1, 5, 0, 0, 0, 0, 0)), (5, (.aload_n 0, 6, 0, 0, 0, 0, 0)), (6, (.getfield 35, 9, 2, 6, 0, 0, 0)), (9, (.if_icmp .ge 7, 12, 16, 0, 0, 0, 0)), (12, (.iconst 1, 13, 0, 0, 0, 1, 0)), (13, (.goto 4, 16, 17, 0, 0, 0, 0))],
  [(16, (.iconst 0, 17, 0, 0, 0, 0, 0)), (17, (.ireturn, 18, 0, 0, 0, 0, 0))]]
def md_X2_has : mMd := (yX2_has, 2, cX2_has, 2, (some .boolean), mt_X2_has)
def mt_X2_kindOf : mTab := [[(0, (.iload_n 1, 1, 0, 0, 0, 0, 0)), (1, (.ifCond .lt 20, 4, 21, 0, 0, 0, 0)), (4, (.iload_n 1, 5, 0, 0, 0, 0, 0)), (5, (.aload_n 0, 6, 0, 0, 0, 0, 0)), (6, (.getfield 35, 9, 2, 6, 0, 0, 0)), (9, (.if_icmp .ge 12, 12, 21, 0, 0, 0, 0)), (12, (.aload_n 0, 13, 0, 0, 0, 0, 0)), (13, (.getfield 11, 16, 2, 0, 2, 0, 0))],
  [(16, (.iload_n 1, 17, 0, 0, 0, 0, 0)), (17, (.iaload, 18, 0, 0, 0, 0, 0)), (18, (.goto 4, 21, 22, 0, 0, 0, 0)), (21, (.iconst 0, 22, 0, 0, 0, 0, 0)), (22, (.ireturn, 23, 0, 0, 0, 0, 0))]]
def md_X2_kindOf : mMd := (yX2_kindOf, 2, cX2_kindOf, 2, (some .int), mt_X2_kindOf)
def mt_X2_firstOf : mTab := [[(0, (.iload_n 1, 1, 0, 0, 0, 0, 0)), (1, (.ifCond .lt 20, 4, 21, 0, 0, 0, 0)), (4, (.iload_n 1, 5, 0, 0, 0, 0, 0)), (5, (.aload_n 0, 6, 0, 0, 0, 0, 0)), (6, (.getfield 35, 9, 2, 6, 0, 0, 0)), (9, (.if_icmp .ge 12, 12, 21, 0, 0, 0, 0)), (12, (.aload_n 0, 13, 0, 0, 0, 0, 0)), (13, (.getfield 15, 16, 2, 1, 2, 0, 0))],
  [(16, (.iload_n 1, 17, 0, 0, 0, 0, 0)), (17, (.iaload, 18, 0, 0, 0, 0, 0)), (18, (.goto 4, 21, 22, 0, 0, 0, 0)), (21, (.iconst (-1), 22, 0, 0, 0, (-1), 0)), (22, (.ireturn, 23, 0, 0, 0, 0, 0))]]
def md_X2_firstOf : mMd := (yX2_firstOf, 2, cX2_firstOf, 2, (some .int), mt_X2_firstOf)
def mt_X2_secondOf : mTab := [[(0, (.iload_n 1, 1, 0, 0, 0, 0, 0)), (1, (.ifCond .lt 20, 4, 21, 0, 0, 0, 0)), (4, (.iload_n 1, 5, 0, 0, 0, 0, 0)), (5, (.aload_n 0, 6, 0, 0, 0, 0, 0)), (6, (.getfield 35, 9, 2, 6, 0, 0, 0)), (9, (.if_icmp .ge 12, 12, 21, 0, 0, 0, 0)), (12, (.aload_n 0, 13, 0, 0, 0, 0, 0)), (13, (.getfield 18, 16, 2, 2, 2, 0, 0))],
  [(16, (.iload_n 1, 17, 0, 0, 0, 0, 0)), (17, (.iaload, 18, 0, 0, 0, 0, 0)), (18, (.goto 4, 21, 22, 0, 0, 0, 0)), (21, (.iconst (-1), 22, 0, 0, 0, (-1), 0)), (22, (.ireturn, 23, 0, 0, 0, 0, 0))]]
def md_X2_secondOf : mMd := (yX2_secondOf, 2, cX2_secondOf, 2, (some .int), mt_X2_secondOf)
def mt_X2_attacksOn : mTab := [[(0, (.aload_n 0, 1, 0, 0, 0, 0, 0)), (1, (.iload_n 1, 2, 0, 0, 0, 0, 0)), (2, (.invokevirtual 39, 5, 20, 2, 2, 0, 0)), (5, (.istore_n 2, 6, 0, 0, 0, 0, 0)), (6, (.iload_n 2, 7, 0, 0, 0, 0, 0)), (7, (.ifCond .ne 5, 10, 12, 0, 0, 0, 0)), (10, (.iconst 0, 11, 0, 0, 0, 0, 0)), (11, (.ireturn, 12, 0, 0, 0, 0, 0)), (12, (.iload_n 2, 13, 0, 0, 0, 0, 0)), (13, (.iconst 2, 14, 0, 0, 0, 2, 0)), (14, (.if_icmp .ne 7, 17, 21, 0, 0, 0, 0))],
  [(17, (.iconst 2, 18, 0, 0, 0, 2, 0)), (18, (.goto 4, 21, 22, 0, 0, 0, 0)), (21, (.iconst 1, 22, 0, 0, 0, 1, 0)), (22, (.ireturn, 23, 0, 0, 0, 0, 0))]]
def md_X2_attacksOn : mMd := (yX2_attacksOn, 2, cX2_attacksOn, 3, (some .int), mt_X2_attacksOn)
def mt_X2_shrinkTo : mTab := [[(0, (.iload_n 1, 1, 0, 0, 0, 0, 0)), (1, (.iconst 4, 2, 0, 0, 0, 4, 0)), (2, (.if_icmp .lt 16, 5, 18, 0, 0, 0, 0)), (5, (.iload_n 1, 6, 0, 0, 0, 0, 0)), (6, (.aload_n 0, 7, 0, 0, 0, 0, 0)), (7, (.getfield 35, 10, 2, 6, 0, 0, 0)), (10, (.if_icmp .gt 8, 13, 18, 0, 0, 0, 0)), (13, (.aload_n 0, 14, 0, 0, 0, 0, 0)), (14, (.iload_n 1, 15, 0, 0, 0, 0, 0)), (15, (.putfield 35, 18, 2, 6, 0, 0, 0))],
  [(18, (.return_, 19, 0, 0, 0, 0, 0))]]
def md_X2_shrinkTo : mMd := (yX2_shrinkTo, 2, cX2_shrinkTo, 2, (none : Option Jvm.ClassFile.FieldType), mt_X2_shrinkTo)
def mt_X2_negationOf : mTab := [[(0, (.aload_n 0, 1, 0, 0, 0, 0, 0)), (1, (.iconst 1, 2, 0, 0, 0, 1, 0)), (2, (.iload_n 1, 3, 0, 0, 0, 0, 0)), (3, (.iconst (-1), 4, 0, 0, 0, (-1), 0)), (4, (.invokevirtual 42, 7, 26, 4, 2, 0, 0)), (7, (.ireturn, 8, 0, 0, 0, 0, 0))]]
def md_X2_negationOf : mMd := (yX2_negationOf, 2, cX2_negationOf, 2, (some .int), mt_X2_negationOf)
def mt_X2_make : mTab := [[(0, (.iload_n 1, 1, 0, 0, 0, 0, 0)), (1, (.iconst 1, 2, 0, 0, 0, 1, 0)), (2, (.if_icmp .ne 7, 5, 9, 0, 0, 0, 0)), (5, (.iconst 1, 6, 0, 0, 0, 1, 0)), (6, (.goto 4, 9, 10, 0, 0, 0, 0)), (9, (.iconst 0, 10, 0, 0, 0, 0, 0)), (10, (.istore 4, 12, 0, 0, 0, 0, 0)), (12, (.aload_n 0, 13, 0, 0, 0, 0, 0)), (13, (.iload_n 2, 14, 0, 0, 0, 0, 0)), (14, (.invokevirtual 46, 17, 19, 2, 2, 0, 0))],
  [(17, (.ifCond .eq 16, 20, 33, 0, 0, 0, 0)), (20, (.iload 4, 22, 0, 0, 0, 0, 0)), (22, (.ifCond .ne 14, 25, 36, 0, 0, 0, 0)), (25, (.aload_n 0, 26, 0, 0, 0, 0, 0)), (26, (.iload_n 3, 27, 0, 0, 0, 0, 0)), (27, (.invokevirtual 46, 30, 19, 2, 2, 0, 0)), (30, (.ifCond .ne 6, 33, 36, 0, 0, 0, 0))],
  [(33, (.bipush (-3), 35, 0, 0, 0, (-3), 0)), (35, (.ireturn, 36, 0, 0, 0, 0, 0)), (36, (.aload_n 0, 37, 0, 0, 0, 0, 0)), (37, (.iload_n 1, 38, 0, 0, 0, 0, 0)), (38, (.iload_n 2, 39, 0, 0, 0, 0, 0)), (39, (.iload_n 3, 40, 0, 0, 0, 0, 0)), (40, (.invokevirtual 50, 43, 27, 4, 2, 0, 0)), (43, (.istore 5, 45, 0, 0, 0, 0, 0)), (45, (.iload 5, 47, 0, 0, 0, 0, 0)), (47, (.ifCond .lt 6, 50, 53, 0, 0, 0, 0))],
  [(50, (.iload 5, 52, 0, 0, 0, 0, 0)), (52, (.ireturn, 53, 0, 0, 0, 0, 0)), (53, (.aload_n 0, 54, 0, 0, 0, 0, 0)), (54, (.getfield 35, 57, 2, 6, 0, 0, 0)), (57, (.bipush 40, 59, 0, 0, 0, 40, 0)), (59, (.if_icmp .lt 6, 62, 65, 0, 0, 0, 0)), (62, (.bipush (-3), 64, 0, 0, 0, (-3), 0))],
  [(64, (.ireturn, 65, 0, 0, 0, 0, 0)), (65, (.aload_n 0, 66, 0, 0, 0, 0, 0)), (66, (.getfield 35, 69, 2, 6, 0, 0, 0)), (69, (.istore 6, 71, 0, 0, 0, 0, 0)), (71, (.aload_n 0, 72, 0, 0, 0, 0, 0)), (72, (.getfield 11, 75, 2, 0, 2, 0, 0)), (75, (.iload 6, 77, 0, 0, 0, 0, 0)), (77, (.iload_n 1, 78, 0, 0, 0, 0, 0)), (78, (.iastore, 79, 0, 0, 0, 0, 0)), (79, (.aload_n 0, 80, 0, 0, 0, 0, 0))],
  [(80, (.getfield 15, 83, 2, 1, 2, 0, 0)), (83, (.iload 6, 85, 0, 0, 0, 0, 0)), (85, (.iload_n 2, 86, 0, 0, 0, 0, 0)), (86, (.iastore, 87, 0, 0, 0, 0, 0)), (87, (.aload_n 0, 88, 0, 0, 0, 0, 0)), (88, (.getfield 18, 91, 2, 2, 2, 0, 0)), (91, (.iload 6, 93, 0, 0, 0, 0, 0)), (93, (.iload_n 3, 94, 0, 0, 0, 0, 0)), (94, (.iastore, 95, 0, 0, 0, 0, 0)), (95, (.aload_n 0, 96, 0, 0, 0, 0, 0))],
  [(96, (.getfield 21, 99, 2, 3, 2, 0, 0)), (99, (.iload 6, 101, 0, 0, 0, 0, 0)), (101, (.sipush 1000, 104, 0, 0, 0, 1000, 0)), (104, (.iconst 1, 105, 0, 0, 0, 1, 0)), (105, (.aload_n 0, 106, 0, 0, 0, 0, 0)), (106, (.getfield 21, 109, 2, 3, 2, 0, 0)), (109, (.iload_n 2, 110, 0, 0, 0, 0, 0)), (110, (.iaload, 111, 0, 0, 0, 0, 0)), (111, (.iadd, 112, 0, 0, 0, 0, 0))],
  [(112, (.iload 4, 114, 0, 0, 0, 0, 0)), (114, (.ifCond .eq 7, 117, 121, 0, 0, 0, 0)), (117, (.iconst 0, 118, 0, 0, 0, 0, 0)), (118, (.goto 9, 121, 127, 0, 0, 0, 0)), (121, (.aload_n 0, 122, 0, 0, 0, 0, 0)), (122, (.getfield 21, 125, 2, 3, 2, 0, 0)), (125, (.iload_n 3, 126, 0, 0, 0, 0, 0)), (126, (.iaload, 127, 0, 0, 0, 0, 0)), (127, (.iadd, 128, 0, 0, 0, 0, 0))],
  [(128, (.invokestatic 53, 131, 194, 2, 0, 0, 0)), (131, (.iastore, 132, 0, 0, 0, 0, 0)), (132, (.aload_n 0, 133, 0, 0, 0, 0, 0)), (133, (.getfield 24, 136, 2, 4, 2, 0, 0)), (136, (.iload 6, 138, 0, 0, 0, 0, 0)), (138, (.iload_n 1, 139, 0, 0, 0, 0, 0)), (139, (.aload_n 0, 140, 0, 0, 0, 0, 0)), (140, (.getfield 24, 143, 2, 4, 2, 0, 0)), (143, (.iload_n 2, 144, 0, 0, 0, 0, 0))],
  [(144, (.iaload, 145, 0, 0, 0, 0, 0)), (145, (.iload 4, 147, 0, 0, 0, 0, 0)), (147, (.ifCond .eq 7, 150, 154, 0, 0, 0, 0)), (150, (.iconst 0, 151, 0, 0, 0, 0, 0)), (151, (.goto 9, 154, 160, 0, 0, 0, 0)), (154, (.aload_n 0, 155, 0, 0, 0, 0, 0)), (155, (.getfield 24, 158, 2, 4, 2, 0, 0)), (158, (.iload_n 3, 159, 0, 0, 0, 0, 0)), (159, (.iaload, 160, 0, 0, 0, 0, 0))],
  [(160, (.invokestatic 59, 163, 28, 3, 0, 0, 0)), (163, (.iastore, 164, 0, 0, 0, 0, 0)), (164, (.aload_n 0, 165, 0, 0, 0, 0, 0)), (165, (.getfield 27, 168, 2, 5, 2, 0, 0)), (168, (.iload 6, 170, 0, 0, 0, 0, 0)), (170, (.lconst 1, 171, 0, 0, 0, 0, 0)), (171, (.iload 6, 173, 0, 0, 0, 0, 0)), (173, (.lshl, 174, 0, 0, 0, 0, 0)), (174, (.aload_n 0, 175, 0, 0, 0, 0, 0)), (175, (.getfield 27, 178, 2, 5, 2, 0, 0))],
  [(178, (.iload_n 2, 179, 0, 0, 0, 0, 0)), (179, (.laload, 180, 0, 0, 0, 0, 0)), (180, (.lor, 181, 0, 0, 0, 0, 0)), (181, (.iload 4, 183, 0, 0, 0, 0, 0)), (183, (.ifCond .eq 7, 186, 190, 0, 0, 0, 0)), (186, (.lconst 0, 187, 0, 0, 0, 0, 0)), (187, (.goto 9, 190, 196, 0, 0, 0, 0)), (190, (.aload_n 0, 191, 0, 0, 0, 0, 0)), (191, (.getfield 27, 194, 2, 5, 2, 0, 0))],
  [(194, (.iload_n 3, 195, 0, 0, 0, 0, 0)), (195, (.laload, 196, 0, 0, 0, 0, 0)), (196, (.lor, 197, 0, 0, 0, 0, 0)), (197, (.lastore, 198, 0, 0, 0, 0, 0)), (198, (.aload_n 0, 199, 0, 0, 0, 0, 0)), (199, (.iload 6, 201, 0, 0, 0, 0, 0)), (201, (.iconst 1, 202, 0, 0, 0, 1, 0)), (202, (.iadd, 203, 0, 0, 0, 0, 0)), (203, (.putfield 35, 206, 2, 6, 0, 0, 0)), (206, (.iload 6, 208, 0, 0, 0, 0, 0))],
  [(208, (.ireturn, 209, 0, 0, 0, 0, 0))]]
def md_X2_make : mMd := (yX2_make, 2, cX2_make, 7, (some .int), mt_X2_make)
def mt_X2_find : mTab := [[(0, (.iconst 4, 1, 0, 0, 0, 4, 0)), (1, (.istore 4, 3, 0, 0, 0, 0, 0)), (3, (.iload 4, 5, 0, 0, 0, 0, 0)), (5, (.aload_n 0, 6, 0, 0, 0, 0, 0)), (6, (.getfield 35, 9, 2, 6, 0, 0, 0)), (9, (.if_icmp .ge 45, 12, 54, 0, 0, 0, 0)), (12, (.aload_n 0, 13, 0, 0, 0, 0, 0)), (13, (.getfield 11, 16, 2, 0, 2, 0, 0))],
  [(16, (.iload 4, 18, 0, 0, 0, 0, 0)), (18, (.iaload, 19, 0, 0, 0, 0, 0)), (19, (.iload_n 1, 20, 0, 0, 0, 0, 0)), (20, (.if_icmp .ne 28, 23, 48, 0, 0, 0, 0)), (23, (.aload_n 0, 24, 0, 0, 0, 0, 0)), (24, (.getfield 15, 27, 2, 1, 2, 0, 0)), (27, (.iload 4, 29, 0, 0, 0, 0, 0)), (29, (.iaload, 30, 0, 0, 0, 0, 0)), (30, (.iload_n 2, 31, 0, 0, 0, 0, 0)), (31, (.if_icmp .ne 17, 34, 48, 0, 0, 0, 0))],
  [(34, (.aload_n 0, 35, 0, 0, 0, 0, 0)), (35, (.getfield 18, 38, 2, 2, 2, 0, 0)), (38, (.iload 4, 40, 0, 0, 0, 0, 0)), (40, (.iaload, 41, 0, 0, 0, 0, 0)), (41, (.iload_n 3, 42, 0, 0, 0, 0, 0)), (42, (.if_icmp .ne 6, 45, 48, 0, 0, 0, 0)), (45, (.iload 4, 47, 0, 0, 0, 0, 0)), (47, (.ireturn, 48, 0, 0, 0, 0, 0))],
  [(48, (.iinc 4 1, 51, 0, 0, 0, 1, 0)), (51, (.goto (-48), 54, 3, 0, 0, 0, 0)), (54, (.iconst (-1), 55, 0, 0, 0, (-1), 0)), (55, (.ireturn, 56, 0, 0, 0, 0, 0))]]
def md_X2_find : mMd := (yX2_find, 2, cX2_find, 5, (some .int), mt_X2_find)
def mt_X2_tableOf : mTab := [[(0, (.iload_n 0, 1, 0, 0, 0, 0, 0)), (1, (.tableswitch 42 1 3 #[27, 34, 38], 28, 0, 0, 0, 0, 0))],
  [(28, (.iload_n 1, 29, 0, 0, 0, 0, 0)), (29, (.iconst (-1), 30, 0, 0, 0, (-1), 0)), (30, (.ixor, 31, 0, 0, 0, 0, 0)), (31, (.ldc 62, 33, 0, 0, 0, 65535, 0))],
  [(33, (.iand, 34, 0, 0, 0, 0, 0)), (34, (.ireturn, 35, 0, 0, 0, 0, 0)), (35, (.iload_n 1, 36, 0, 0, 0, 0, 0)), (36, (.iload_n 2, 37, 0, 0, 0, 0, 0)), (37, (.iand, 38, 0, 0, 0, 0, 0)), (38, (.ireturn, 39, 0, 0, 0, 0, 0)), (39, (.iload_n 1, 40, 0, 0, 0, 0, 0)), (40, (.iload_n 2, 41, 0, 0, 0, 0, 0)), (41, (.ior, 42, 0, 0, 0, 0, 0)), (42, (.ireturn, 43, 0, 0, 0, 0, 0)), (43, (.iload_n 1, 44, 0, 0, 0, 0, 0)), (44, (.iconst (-1), 45, 0, 0, 0, (-1), 0)), (45, (.ixor, 46, 0, 0, 0, 0, 0)), (46, (.iload_n 2, 47, 0, 0, 0, 0, 0)), (47, (.ior, 48, 0, 0, 0, 0, 0))],
  [(48, (.ldc 62, 50, 0, 0, 0, 65535, 0)), (50, (.iand, 51, 0, 0, 0, 0, 0)), (51, (.ireturn, 52, 0, 0, 0, 0, 0))]]
def md_X2_tableOf : mMd := (yX2_tableOf, 2, cX2_tableOf, 3, (some .int), mt_X2_tableOf)
def mt_X3_init : mTab := [[(0, (.aload_n 0, 1, 0, 0, 0, 0, 0)), (1, (.invokespecial 1, 4, 1010, 1, 0, 0, 0)), (4, (.aload_n 0, 5, 0, 0, 0, 0, 0)), (5, (.bipush 40, 7, 0, 0, 0, 40, 0)), (7, (.newarray .int, 9, 100, 0, 0, 0, 0)), (9, (.putfield 9, 12, 3, 0, 12, 0, 0)), (12, (.return_, 13, 0, 0, 0, 0, 0))]]
def md_X3_init : mMd := (yX3_init, 3, cX3_init, 1, (none : Option Jvm.ClassFile.FieldType), mt_X3_init)
def mt_X3_add : mTab := [[(0, (.iload_n 2, 1, 0, 0, 0, 0, 0)), (1, (.ifCond .lt 14, 4, 15, 0, 0, 0, 0)), (4, (.iload_n 2, 5, 0, 0, 0, 0, 0)), (5, (.bipush 40, 7, 0, 0, 0, 40, 0)), (7, (.aload_n 0, 8, 0, 0, 0, 0, 0)), (8, (.getfield 13, 11, 3, 1, 0, 0, 0)), (11, (.isub, 12, 0, 0, 0, 0, 0)), (12, (.if_icmp .le 5, 15, 17, 0, 0, 0, 0)), (15, (.iconst 0, 16, 0, 0, 0, 0, 0))],
  [(16, (.ireturn, 17, 0, 0, 0, 0, 0)), (17, (.aload_n 0, 18, 0, 0, 0, 0, 0)), (18, (.getfield 13, 21, 3, 1, 0, 0, 0)), (21, (.iload_n 2, 22, 0, 0, 0, 0, 0)), (22, (.iadd, 23, 0, 0, 0, 0, 0)), (23, (.istore_n 3, 24, 0, 0, 0, 0, 0)), (24, (.aload_n 0, 25, 0, 0, 0, 0, 0)), (25, (.getfield 13, 28, 3, 1, 0, 0, 0)), (28, (.istore 4, 30, 0, 0, 0, 0, 0)), (30, (.iload 4, 32, 0, 0, 0, 0, 0))],
  [(32, (.iload_n 3, 33, 0, 0, 0, 0, 0)), (33, (.if_icmp .ge 17, 36, 50, 0, 0, 0, 0)), (36, (.aload_n 0, 37, 0, 0, 0, 0, 0)), (37, (.getfield 9, 40, 3, 0, 2, 0, 0)), (40, (.iload 4, 42, 0, 0, 0, 0, 0)), (42, (.iload_n 1, 43, 0, 0, 0, 0, 0)), (43, (.iastore, 44, 0, 0, 0, 0, 0)), (44, (.iinc 4 1, 47, 0, 0, 0, 1, 0)), (47, (.goto (-17), 50, 30, 0, 0, 0, 0))],
  [(50, (.aload_n 0, 51, 0, 0, 0, 0, 0)), (51, (.iload_n 3, 52, 0, 0, 0, 0, 0)), (52, (.putfield 13, 55, 3, 1, 0, 0, 0)), (55, (.iconst 1, 56, 0, 0, 0, 1, 0)), (56, (.ireturn, 57, 0, 0, 0, 0, 0))]]
def md_X3_add : mMd := (yX3_add, 3, cX3_add, 5, (some .boolean), mt_X3_add)
def mt_X3_signAt : mTab := [[(0, (.iload_n 1, 1, 0, 0, 0, 0, 0)), (1, (.ifCond .lt 20, 4, 21, 0, 0, 0, 0)), (4, (.iload_n 1, 5, 0, 0, 0, 0, 0)), (5, (.aload_n 0, 6, 0, 0, 0, 0, 0)), (6, (.getfield 13, 9, 3, 1, 0, 0, 0)), (9, (.if_icmp .ge 12, 12, 21, 0, 0, 0, 0)), (12, (.aload_n 0, 13, 0, 0, 0, 0, 0)), (13, (.getfield 9, 16, 3, 0, 2, 0, 0))],
  [(16, (.iload_n 1, 17, 0, 0, 0, 0, 0)), (17, (.iaload, 18, 0, 0, 0, 0, 0)), (18, (.goto 4, 21, 22, 0, 0, 0, 0)), (21, (.iconst 0, 22, 0, 0, 0, 0, 0)), (22, (.ireturn, 23, 0, 0, 0, 0, 0))]]
def md_X3_signAt : mMd := (yX3_signAt, 3, cX3_signAt, 2, (some .int), mt_X3_signAt)
def mt_X3_spells : mTab := [[(0, (.aload_n 1, 1, 0, 0, 0, 0, 0)), (1, (.invokevirtual 17, 4, 1001, 1, 0, 0, 0)), (4, (.aload_n 0, 5, 0, 0, 0, 0, 0)), (5, (.getfield 13, 8, 3, 1, 0, 0, 0)), (8, (.if_icmp .eq 5, 11, 13, 0, 0, 0, 0)), (11, (.iconst 0, 12, 0, 0, 0, 0, 0)), (12, (.ireturn, 13, 0, 0, 0, 0, 0)), (13, (.iconst 0, 14, 0, 0, 0, 0, 0)), (14, (.istore_n 2, 15, 0, 0, 0, 0, 0)), (15, (.iload_n 2, 16, 0, 0, 0, 0, 0))],
  [(16, (.aload_n 0, 17, 0, 0, 0, 0, 0)), (17, (.getfield 13, 20, 3, 1, 0, 0, 0)), (20, (.if_icmp .ge 25, 23, 45, 0, 0, 0, 0)), (23, (.aload_n 1, 24, 0, 0, 0, 0, 0)), (24, (.iload_n 2, 25, 0, 0, 0, 0, 0)), (25, (.invokevirtual 22, 28, 1002, 2, 0, 0, 0)), (28, (.aload_n 0, 29, 0, 0, 0, 0, 0)), (29, (.getfield 9, 32, 3, 0, 2, 0, 0))],
  [(32, (.iload_n 2, 33, 0, 0, 0, 0, 0)), (33, (.iaload, 34, 0, 0, 0, 0, 0)), (34, (.if_icmp .eq 5, 37, 39, 0, 0, 0, 0)), (37, (.iconst 0, 38, 0, 0, 0, 0, 0)), (38, (.ireturn, 39, 0, 0, 0, 0, 0)), (39, (.iinc 2 1, 42, 0, 0, 0, 1, 0)), (42, (.goto (-27), 45, 15, 0, 0, 0, 0)), (45, (.iconst 1, 46, 0, 0, 0, 1, 0)), (46, (.ireturn, 47, 0, 0, 0, 0, 0))]]
def md_X3_spells : mMd := (yX3_spells, 3, cX3_spells, 3, (some .boolean), mt_X3_spells)
def mt_X4_init : mTab := [[(0, (.aload_n 0, 1, 0, 0, 0, 0, 0)), (1, (.invokespecial 1, 4, 1010, 1, 0, 0, 0)), (4, (.aload_n 0, 5, 0, 0, 0, 0, 0)), (5, (.sipush 300, 8, 0, 0, 0, 300, 0)), (8, (.newarray .long, 10, 101, 0, 0, 0, 0)), (10, (.putfield 9, 13, 4, 2, 12, 0, 0)), (13, (.aload_n 0, 14, 0, 0, 0, 0, 0)), (14, (.sipush 300, 17, 0, 0, 0, 300, 0))],
  [(17, (.newarray .long, 19, 101, 0, 0, 0, 0)), (19, (.putfield 13, 22, 4, 3, 12, 0, 0)), (22, (.aload_n 0, 23, 0, 0, 0, 0, 0)), (23, (.sipush 300, 26, 0, 0, 0, 300, 0)), (26, (.newarray .int, 28, 100, 0, 0, 0, 0)), (28, (.putfield 16, 31, 4, 4, 12, 0, 0)), (31, (.aload_n 0, 32, 0, 0, 0, 0, 0))],
  [(32, (.sipush 1024, 35, 0, 0, 0, 1024, 0)), (35, (.newarray .int, 37, 100, 0, 0, 0, 0)), (37, (.putfield 20, 40, 4, 5, 12, 0, 0)), (40, (.aload_n 0, 41, 0, 0, 0, 0, 0)), (41, (.sipush 2048, 44, 0, 0, 0, 2048, 0)), (44, (.newarray .int, 46, 100, 0, 0, 0, 0)), (46, (.putfield 23, 49, 4, 6, 2, 0, 0))],
  [(49, (.aload_n 0, 50, 0, 0, 0, 0, 0)), (50, (.sipush 301, 53, 0, 0, 0, 301, 0)), (53, (.newarray .int, 55, 100, 0, 0, 0, 0)), (55, (.putfield 26, 58, 4, 7, 12, 0, 0)), (58, (.aload_n 0, 59, 0, 0, 0, 0, 0)), (59, (.aload_n 1, 60, 0, 0, 0, 0, 0)), (60, (.putfield 29, 63, 4, 0, 12, 0, 0)), (63, (.aload_n 0, 64, 0, 0, 0, 0, 0))],
  [(64, (.new 33, 67, 0, 9, 0, 0, 0)), (67, (.dup, 68, 0, 0, 0, 0, 0)), (68, (.aload_n 1, 69, 0, 0, 0, 0, 0)), (69, (.invokespecial 35, 72, 0, 2, 0, 0, 0)), (72, (.putfield 38, 75, 4, 1, 12, 0, 0)), (75, (.return_, 76, 0, 0, 0, 0, 0))]]
def md_X4_init : mMd := (yX4_init, 4, cX4_init, 2, (none : Option Jvm.ClassFile.FieldType), mt_X4_init)
def mt_X4_startFromFormula : mTab := [[(0, (.aload_n 0, 1, 0, 0, 0, 0, 0)), (1, (.iload_n 2, 2, 0, 0, 0, 0, 0)), (2, (.invokevirtual 42, 5, 36, 2, 4, 0, 0)), (5, (.aload_n 0, 6, 0, 0, 0, 0, 0)), (6, (.getfield 38, 9, 4, 1, 2, 0, 0)), (9, (.lconst 0, 10, 0, 0, 0, 0, 0)), (10, (.putfield 46, 13, 0, 5, 1, 0, 0)), (13, (.aload_n 0, 14, 0, 0, 0, 0, 0)), (14, (.getfield 38, 17, 4, 1, 2, 0, 0))],
  [(17, (.lconst 0, 18, 0, 0, 0, 0, 0)), (18, (.putfield 50, 21, 0, 6, 1, 0, 0)), (21, (.aload_n 0, 22, 0, 0, 0, 0, 0)), (22, (.getfield 29, 25, 4, 0, 2, 0, 0)), (25, (.iload_n 1, 26, 0, 0, 0, 0, 0)), (26, (.invokevirtual 53, 29, 23, 2, 2, 0, 0)), (29, (.istore_n 3, 30, 0, 0, 0, 0, 0)), (30, (.iconst 0, 31, 0, 0, 0, 0, 0)), (31, (.istore 4, 33, 0, 0, 0, 0, 0))],
  [(33, (.iload 4, 35, 0, 0, 0, 0, 0)), (35, (.iload_n 3, 36, 0, 0, 0, 0, 0)), (36, (.if_icmp .ge 38, 39, 74, 0, 0, 0, 0)), (39, (.aload_n 0, 40, 0, 0, 0, 0, 0)), (40, (.getfield 38, 43, 4, 1, 2, 0, 0)), (43, (.iload_n 1, 44, 0, 0, 0, 0, 0)), (44, (.iload 4, 46, 0, 0, 0, 0, 0)), (46, (.invokevirtual 59, 49, 9, 3, 0, 0, 0))],
  [(49, (.aload_n 0, 50, 0, 0, 0, 0, 0)), (50, (.aload_n 0, 51, 0, 0, 0, 0, 0)), (51, (.getfield 38, 54, 4, 1, 2, 0, 0)), (54, (.getfield 63, 57, 0, 7, 1, 0, 0)), (57, (.aload_n 0, 58, 0, 0, 0, 0, 0)), (58, (.getfield 38, 61, 4, 1, 2, 0, 0)), (61, (.getfield 66, 64, 0, 8, 1, 0, 0))],
  [(64, (.invokevirtual 69, 67, 40, 3, 4, 0, 0)), (67, (.pop, 68, 0, 0, 0, 0, 0)), (68, (.iinc 4 1, 71, 0, 0, 0, 1, 0)), (71, (.goto (-38), 74, 33, 0, 0, 0, 0)), (74, (.aload_n 0, 75, 0, 0, 0, 0, 0)), (75, (.aload_n 0, 76, 0, 0, 0, 0, 0)), (76, (.getfield 73, 79, 4, 10, 0, 0, 0)), (79, (.putfield 77, 82, 4, 9, 0, 0, 0))],
  [(82, (.return_, 83, 0, 0, 0, 0, 0))]]
def md_X4_startFromFormula : mMd := (yX4_startFromFormula, 4, cX4_startFromFormula, 5, (none : Option Jvm.ClassFile.FieldType), mt_X4_startFromFormula)
def mt_X4_startFromPosition : mTab := [[(0, (.aload_n 0, 1, 0, 0, 0, 0, 0)), (1, (.iload 5, 3, 0, 0, 0, 0, 0)), (3, (.invokevirtual 42, 6, 36, 2, 4, 0, 0)), (6, (.aload_n 0, 7, 0, 0, 0, 0, 0)), (7, (.lload_n 1, 8, 0, 0, 0, 0, 0)), (8, (.lload_n 3, 9, 0, 0, 0, 0, 0)), (9, (.invokevirtual 69, 12, 40, 3, 4, 0, 0)), (12, (.pop, 13, 0, 0, 0, 0, 0)), (13, (.aload_n 0, 14, 0, 0, 0, 0, 0)), (14, (.aload_n 0, 15, 0, 0, 0, 0, 0)), (15, (.getfield 73, 18, 4, 10, 0, 0, 0))],
  [(18, (.putfield 77, 21, 4, 9, 0, 0, 0)), (21, (.return_, 22, 0, 0, 0, 0, 0))]]
def md_X4_startFromPosition : mMd := (yX4_startFromPosition, 4, cX4_startFromPosition, 6, (none : Option Jvm.ClassFile.FieldType), mt_X4_startFromPosition)
def mt_X4_clear : mTab := [[(0, (.aload_n 0, 1, 0, 0, 0, 0, 0)), (1, (.getfield 20, 4, 4, 5, 2, 0, 0)), (4, (.iconst 0, 5, 0, 0, 0, 0, 0)), (5, (.invokestatic 80, 8, 196, 2, 0, 0, 0)), (8, (.aload_n 0, 9, 0, 0, 0, 0, 0)), (9, (.getfield 38, 12, 4, 1, 2, 0, 0)), (12, (.iload_n 1, 13, 0, 0, 0, 0, 0)), (13, (.putfield 86, 16, 0, 4, 0, 0, 0))],
  [(16, (.aload_n 0, 17, 0, 0, 0, 0, 0)), (17, (.iconst 0, 18, 0, 0, 0, 0, 0)), (18, (.putfield 73, 21, 4, 10, 0, 0, 0)), (21, (.aload_n 0, 22, 0, 0, 0, 0, 0)), (22, (.iconst 0, 23, 0, 0, 0, 0, 0)), (23, (.putfield 89, 26, 4, 8, 0, 0, 0)), (26, (.aload_n 0, 27, 0, 0, 0, 0, 0)), (27, (.iconst 0, 28, 0, 0, 0, 0, 0)), (28, (.putfield 92, 31, 4, 11, 3, 0, 0)), (31, (.return_, 32, 0, 0, 0, 0, 0))]]
def md_X4_clear : mMd := (yX4_clear, 4, cX4_clear, 2, (none : Option Jvm.ClassFile.FieldType), mt_X4_clear)
def mt_X4_explore : mTab := [[(0, (.iconst 0, 1, 0, 0, 0, 0, 0)), (1, (.istore_n 1, 2, 0, 0, 0, 0, 0)), (2, (.iload_n 1, 3, 0, 0, 0, 0, 0)), (3, (.sipush 300, 6, 0, 0, 0, 300, 0)), (6, (.if_icmp .ge 97, 9, 103, 0, 0, 0, 0)), (9, (.iload_n 1, 10, 0, 0, 0, 0, 0)), (10, (.aload_n 0, 11, 0, 0, 0, 0, 0)), (11, (.getfield 73, 14, 4, 10, 0, 0, 0)), (14, (.if_icmp .ge 89, 17, 103, 0, 0, 0, 0))],
  [(17, (.aload_n 0, 18, 0, 0, 0, 0, 0)), (18, (.getfield 92, 21, 4, 11, 3, 0, 0)), (21, (.ifCond .ne 82, 24, 103, 0, 0, 0, 0)), (24, (.aload_n 0, 25, 0, 0, 0, 0, 0)), (25, (.getfield 38, 28, 4, 1, 2, 0, 0)), (28, (.aload_n 0, 29, 0, 0, 0, 0, 0)), (29, (.getfield 9, 32, 4, 2, 2, 0, 0))],
  [(32, (.iload_n 1, 33, 0, 0, 0, 0, 0)), (33, (.laload, 34, 0, 0, 0, 0, 0)), (34, (.aload_n 0, 35, 0, 0, 0, 0, 0)), (35, (.getfield 13, 38, 4, 3, 2, 0, 0)), (38, (.iload_n 1, 39, 0, 0, 0, 0, 0)), (39, (.laload, 40, 0, 0, 0, 0, 0)), (40, (.invokevirtual 96, 43, 1, 3, 0, 0, 0)), (43, (.aload_n 0, 44, 0, 0, 0, 0, 0)), (44, (.getfield 26, 47, 4, 7, 2, 0, 0)), (47, (.iload_n 1, 48, 0, 0, 0, 0, 0))],
  [(48, (.aload_n 0, 49, 0, 0, 0, 0, 0)), (49, (.getfield 89, 52, 4, 8, 0, 0, 0)), (52, (.iastore, 53, 0, 0, 0, 0, 0)), (53, (.iconst 0, 54, 0, 0, 0, 0, 0)), (54, (.istore_n 2, 55, 0, 0, 0, 0, 0)), (55, (.iload_n 2, 56, 0, 0, 0, 0, 0)), (56, (.aload_n 0, 57, 0, 0, 0, 0, 0)), (57, (.getfield 38, 60, 4, 1, 2, 0, 0)), (60, (.getfield 100, 63, 0, 3, 0, 0, 0)), (63, (.if_icmp .ge 22, 66, 85, 0, 0, 0, 0))],
  [(66, (.aload_n 0, 67, 0, 0, 0, 0, 0)), (67, (.getfield 92, 70, 4, 11, 3, 0, 0)), (70, (.ifCond .ne 15, 73, 85, 0, 0, 0, 0)), (73, (.aload_n 0, 74, 0, 0, 0, 0, 0)), (74, (.iload_n 1, 75, 0, 0, 0, 0, 0)), (75, (.iload_n 2, 76, 0, 0, 0, 0, 0)), (76, (.invokevirtual 103, 79, 38, 3, 4, 0, 0)), (79, (.iinc 2 1, 82, 0, 0, 0, 1, 0))],
  [(82, (.goto (-27), 85, 55, 0, 0, 0, 0)), (85, (.aload_n 0, 86, 0, 0, 0, 0, 0)), (86, (.getfield 26, 89, 4, 7, 2, 0, 0)), (89, (.iload_n 1, 90, 0, 0, 0, 0, 0)), (90, (.iconst 1, 91, 0, 0, 0, 1, 0)), (91, (.iadd, 92, 0, 0, 0, 0, 0)), (92, (.aload_n 0, 93, 0, 0, 0, 0, 0)), (93, (.getfield 89, 96, 4, 8, 0, 0, 0))],
  [(96, (.iastore, 97, 0, 0, 0, 0, 0)), (97, (.iinc 1 1, 100, 0, 0, 0, 1, 0)), (100, (.goto (-98), 103, 2, 0, 0, 0, 0)), (103, (.aload_n 0, 104, 0, 0, 0, 0, 0)), (104, (.getfield 92, 107, 4, 11, 3, 0, 0)), (107, (.ifCond .ne 7, 110, 114, 0, 0, 0, 0)), (110, (.iconst 1, 111, 0, 0, 0, 1, 0)), (111, (.goto 4, 114, 115, 0, 0, 0, 0))],
  [(114, (.iconst 0, 115, 0, 0, 0, 0, 0)), (115, (.ireturn, 116, 0, 0, 0, 0, 0))]]
def md_X4_explore : mMd := (yX4_explore, 4, cX4_explore, 3, (some .boolean), mt_X4_explore)
def mt_X4_linkMove : mTab := [[(0, (.aload_n 0, 1, 0, 0, 0, 0, 0)), (1, (.getfield 89, 4, 4, 8, 0, 0, 0)), (4, (.istore_n 3, 5, 0, 0, 0, 0, 0)), (5, (.iconst 0, 6, 0, 0, 0, 0, 0)), (6, (.istore 4, 8, 0, 0, 0, 0, 0)), (8, (.aload_n 0, 9, 0, 0, 0, 0, 0)), (9, (.getfield 38, 12, 4, 1, 2, 0, 0)), (12, (.iload_n 2, 13, 0, 0, 0, 0, 0)), (13, (.invokevirtual 106, 16, 6, 2, 0, 0, 0))],
  [(16, (.istore 5, 18, 0, 0, 0, 0, 0)), (18, (.aload_n 0, 19, 0, 0, 0, 0, 0)), (19, (.iload 5, 21, 0, 0, 0, 0, 0)), (21, (.invokevirtual 109, 24, 39, 2, 4, 0, 0)), (24, (.iconst 0, 25, 0, 0, 0, 0, 0)), (25, (.istore 6, 27, 0, 0, 0, 0, 0)), (27, (.iload 6, 29, 0, 0, 0, 0, 0)), (29, (.iload 5, 31, 0, 0, 0, 0, 0)), (31, (.if_icmp .ge 70, 34, 101, 0, 0, 0, 0))],
  [(34, (.aload_n 0, 35, 0, 0, 0, 0, 0)), (35, (.getfield 92, 38, 4, 11, 3, 0, 0)), (38, (.ifCond .ne 63, 41, 101, 0, 0, 0, 0)), (41, (.aload_n 0, 42, 0, 0, 0, 0, 0)), (42, (.getfield 38, 45, 4, 1, 2, 0, 0)), (45, (.iload_n 2, 46, 0, 0, 0, 0, 0)), (46, (.iload 6, 48, 0, 0, 0, 0, 0))],
  [(48, (.invokevirtual 112, 51, 7, 3, 0, 0, 0)), (51, (.aload_n 0, 52, 0, 0, 0, 0, 0)), (52, (.aload_n 0, 53, 0, 0, 0, 0, 0)), (53, (.getfield 38, 56, 4, 1, 2, 0, 0)), (56, (.getfield 63, 59, 0, 7, 1, 0, 0)), (59, (.aload_n 0, 60, 0, 0, 0, 0, 0)), (60, (.getfield 38, 63, 4, 1, 2, 0, 0)), (63, (.getfield 66, 66, 0, 8, 1, 0, 0))],
  [(66, (.invokevirtual 69, 69, 40, 3, 4, 0, 0)), (69, (.istore 7, 71, 0, 0, 0, 0, 0)), (71, (.aload_n 0, 72, 0, 0, 0, 0, 0)), (72, (.iload 7, 74, 0, 0, 0, 0, 0)), (74, (.invokevirtual 109, 77, 39, 2, 4, 0, 0)), (77, (.iload 4, 79, 0, 0, 0, 0, 0)), (79, (.ifCond .ne 9, 82, 88, 0, 0, 0, 0))],
  [(82, (.iload 7, 84, 0, 0, 0, 0, 0)), (84, (.iload_n 1, 85, 0, 0, 0, 0, 0)), (85, (.if_icmp .ne 7, 88, 92, 0, 0, 0, 0)), (88, (.iconst 1, 89, 0, 0, 0, 1, 0)), (89, (.goto 4, 92, 93, 0, 0, 0, 0)), (92, (.iconst 0, 93, 0, 0, 0, 0, 0)), (93, (.istore 4, 95, 0, 0, 0, 0, 0)), (95, (.iinc 6 1, 98, 0, 0, 0, 1, 0))],
  [(98, (.goto (-71), 101, 27, 0, 0, 0, 0)), (101, (.iload 4, 103, 0, 0, 0, 0, 0)), (103, (.ifCond .eq 8, 106, 111, 0, 0, 0, 0)), (106, (.aload_n 0, 107, 0, 0, 0, 0, 0)), (107, (.iload_n 3, 108, 0, 0, 0, 0, 0)), (108, (.putfield 89, 111, 4, 8, 0, 0, 0)), (111, (.return_, 112, 0, 0, 0, 0, 0))]]
def md_X4_linkMove : mMd := (yX4_linkMove, 4, cX4_linkMove, 8, (none : Option Jvm.ClassFile.FieldType), mt_X4_linkMove)
def mt_X4_addLink : mTab := [[(0, (.aload_n 0, 1, 0, 0, 0, 0, 0)), (1, (.getfield 89, 4, 4, 8, 0, 0, 0)), (4, (.aload_n 0, 5, 0, 0, 0, 0, 0)), (5, (.getfield 23, 8, 4, 6, 2, 0, 0)), (8, (.arraylength, 9, 0, 0, 0, 0, 0)), (9, (.if_icmp .lt 20, 12, 29, 0, 0, 0, 0)), (12, (.aload_n 0, 13, 0, 0, 0, 0, 0)), (13, (.aload_n 0, 14, 0, 0, 0, 0, 0)), (14, (.getfield 23, 17, 4, 6, 2, 0, 0))],
  [(17, (.iconst 2, 18, 0, 0, 0, 2, 0)), (18, (.aload_n 0, 19, 0, 0, 0, 0, 0)), (19, (.getfield 89, 22, 4, 8, 0, 0, 0)), (22, (.imul, 23, 0, 0, 0, 0, 0)), (23, (.invokestatic 115, 26, 198, 2, 0, 0, 0)), (26, (.putfield 23, 29, 4, 6, 2, 0, 0)), (29, (.aload_n 0, 30, 0, 0, 0, 0, 0)), (30, (.getfield 23, 33, 4, 6, 2, 0, 0))],
  [(33, (.aload_n 0, 34, 0, 0, 0, 0, 0)), (34, (.getfield 89, 37, 4, 8, 0, 0, 0)), (37, (.iload_n 1, 38, 0, 0, 0, 0, 0)), (38, (.iastore, 39, 0, 0, 0, 0, 0)), (39, (.aload_n 0, 40, 0, 0, 0, 0, 0)), (40, (.dup, 41, 0, 0, 0, 0, 0)), (41, (.getfield 89, 44, 4, 8, 0, 0, 0)), (44, (.iconst 1, 45, 0, 0, 0, 1, 0)), (45, (.iadd, 46, 0, 0, 0, 0, 0)), (46, (.putfield 89, 49, 4, 8, 0, 0, 0))],
  [(49, (.return_, 50, 0, 0, 0, 0, 0))]]
def md_X4_addLink : mMd := (yX4_addLink, 4, cX4_addLink, 2, (none : Option Jvm.ClassFile.FieldType), mt_X4_addLink)
def mt_X4_numberOf : mTab := [[(0, (.aload_n 0, 1, 0, 0, 0, 0, 0)), (1, (.lload_n 1, 2, 0, 0, 0, 0, 0)), (2, (.lload_n 3, 3, 0, 0, 0, 0, 0)), (3, (.invokevirtual 119, 6, 41, 3, 4, 0, 0)), (6, (.istore 5, 8, 0, 0, 0, 0, 0)), (8, (.aload_n 0, 9, 0, 0, 0, 0, 0)), (9, (.getfield 20, 12, 4, 5, 2, 0, 0)), (12, (.iload 5, 14, 0, 0, 0, 0, 0)), (14, (.iaload, 15, 0, 0, 0, 0, 0)), (15, (.ifCond .ne 71, 18, 86, 0, 0, 0, 0))],
  [(18, (.aload_n 0, 19, 0, 0, 0, 0, 0)), (19, (.getfield 73, 22, 4, 10, 0, 0, 0)), (22, (.sipush 300, 25, 0, 0, 0, 300, 0)), (25, (.if_icmp .lt 10, 28, 35, 0, 0, 0, 0)), (28, (.aload_n 0, 29, 0, 0, 0, 0, 0)), (29, (.iconst 1, 30, 0, 0, 0, 1, 0)), (30, (.putfield 92, 33, 4, 11, 3, 0, 0))],
  [(33, (.iconst 0, 34, 0, 0, 0, 0, 0)), (34, (.ireturn, 35, 0, 0, 0, 0, 0)), (35, (.aload_n 0, 36, 0, 0, 0, 0, 0)), (36, (.getfield 9, 39, 4, 2, 2, 0, 0)), (39, (.aload_n 0, 40, 0, 0, 0, 0, 0)), (40, (.getfield 73, 43, 4, 10, 0, 0, 0)), (43, (.lload_n 1, 44, 0, 0, 0, 0, 0)), (44, (.lastore, 45, 0, 0, 0, 0, 0)), (45, (.aload_n 0, 46, 0, 0, 0, 0, 0)), (46, (.getfield 13, 49, 4, 3, 2, 0, 0))],
  [(49, (.aload_n 0, 50, 0, 0, 0, 0, 0)), (50, (.getfield 73, 53, 4, 10, 0, 0, 0)), (53, (.lload_n 3, 54, 0, 0, 0, 0, 0)), (54, (.lastore, 55, 0, 0, 0, 0, 0)), (55, (.aload_n 0, 56, 0, 0, 0, 0, 0)), (56, (.getfield 16, 59, 4, 4, 2, 0, 0)), (59, (.aload_n 0, 60, 0, 0, 0, 0, 0)), (60, (.getfield 73, 63, 4, 10, 0, 0, 0)), (63, (.iconst 0, 64, 0, 0, 0, 0, 0))],
  [(64, (.iastore, 65, 0, 0, 0, 0, 0)), (65, (.aload_n 0, 66, 0, 0, 0, 0, 0)), (66, (.dup, 67, 0, 0, 0, 0, 0)), (67, (.getfield 73, 70, 4, 10, 0, 0, 0)), (70, (.iconst 1, 71, 0, 0, 0, 1, 0)), (71, (.iadd, 72, 0, 0, 0, 0, 0)), (72, (.putfield 73, 75, 4, 10, 0, 0, 0)), (75, (.aload_n 0, 76, 0, 0, 0, 0, 0)), (76, (.getfield 20, 79, 4, 5, 2, 0, 0)), (79, (.iload 5, 81, 0, 0, 0, 0, 0))],
  [(81, (.aload_n 0, 82, 0, 0, 0, 0, 0)), (82, (.getfield 73, 85, 4, 10, 0, 0, 0)), (85, (.iastore, 86, 0, 0, 0, 0, 0)), (86, (.aload_n 0, 87, 0, 0, 0, 0, 0)), (87, (.getfield 20, 90, 4, 5, 2, 0, 0)), (90, (.iload 5, 92, 0, 0, 0, 0, 0)), (92, (.iaload, 93, 0, 0, 0, 0, 0)), (93, (.iconst 1, 94, 0, 0, 0, 1, 0)), (94, (.isub, 95, 0, 0, 0, 0, 0)), (95, (.ireturn, 96, 0, 0, 0, 0, 0))]]
def md_X4_numberOf : mMd := (yX4_numberOf, 4, cX4_numberOf, 6, (some .int), mt_X4_numberOf)
def mt_X4_placeOf : mTab := [[(0, (.lload_n 1, 1, 0, 0, 0, 0, 0)), (1, (.ldc2_w 122, 4, 0, 0, 0, 0, (-7046029254386353131))), (4, (.lmul, 5, 0, 0, 0, 0, 0)), (5, (.lload_n 3, 6, 0, 0, 0, 0, 0)), (6, (.ldc2_w 124, 9, 0, 0, 0, 0, (-4417276706812531889))), (9, (.lmul, 10, 0, 0, 0, 0, 0)), (10, (.ladd, 11, 0, 0, 0, 0, 0)), (11, (.lstore 5, 13, 0, 0, 0, 0, 0)), (13, (.lload 5, 15, 0, 0, 0, 0, 0)), (15, (.bipush 44, 17, 0, 0, 0, 44, 0))],
  [(17, (.lushr, 18, 0, 0, 0, 0, 0)), (18, (.l2i, 19, 0, 0, 0, 0, 0)), (19, (.sipush 1023, 22, 0, 0, 0, 1023, 0)), (22, (.iand, 23, 0, 0, 0, 0, 0)), (23, (.istore 7, 25, 0, 0, 0, 0, 0)), (25, (.iconst 0, 26, 0, 0, 0, 0, 0)), (26, (.istore 8, 28, 0, 0, 0, 0, 0)), (28, (.iload 8, 30, 0, 0, 0, 0, 0)), (30, (.sipush 1024, 33, 0, 0, 0, 1024, 0))],
  [(33, (.if_icmp .ge 62, 36, 95, 0, 0, 0, 0)), (36, (.aload_n 0, 37, 0, 0, 0, 0, 0)), (37, (.getfield 20, 40, 4, 5, 2, 0, 0)), (40, (.iload 7, 42, 0, 0, 0, 0, 0)), (42, (.iaload, 43, 0, 0, 0, 0, 0)), (43, (.iconst 1, 44, 0, 0, 0, 1, 0)), (44, (.isub, 45, 0, 0, 0, 0, 0)), (45, (.istore 9, 47, 0, 0, 0, 0, 0)), (47, (.iload 9, 49, 0, 0, 0, 0, 0))],
  [(49, (.ifCond .lt 46, 52, 95, 0, 0, 0, 0)), (52, (.aload_n 0, 53, 0, 0, 0, 0, 0)), (53, (.getfield 9, 56, 4, 2, 2, 0, 0)), (56, (.iload 9, 58, 0, 0, 0, 0, 0)), (58, (.laload, 59, 0, 0, 0, 0, 0)), (59, (.lload_n 1, 60, 0, 0, 0, 0, 0)), (60, (.lcmp, 61, 0, 0, 0, 0, 0)), (61, (.ifCond .ne 18, 64, 79, 0, 0, 0, 0))],
  [(64, (.aload_n 0, 65, 0, 0, 0, 0, 0)), (65, (.getfield 13, 68, 4, 3, 2, 0, 0)), (68, (.iload 9, 70, 0, 0, 0, 0, 0)), (70, (.laload, 71, 0, 0, 0, 0, 0)), (71, (.lload_n 3, 72, 0, 0, 0, 0, 0)), (72, (.lcmp, 73, 0, 0, 0, 0, 0)), (73, (.ifCond .ne 6, 76, 79, 0, 0, 0, 0)), (76, (.goto 19, 79, 95, 0, 0, 0, 0)), (79, (.iload 7, 81, 0, 0, 0, 0, 0))],
  [(81, (.iconst 1, 82, 0, 0, 0, 1, 0)), (82, (.iadd, 83, 0, 0, 0, 0, 0)), (83, (.sipush 1023, 86, 0, 0, 0, 1023, 0)), (86, (.iand, 87, 0, 0, 0, 0, 0)), (87, (.istore 7, 89, 0, 0, 0, 0, 0)), (89, (.iinc 8 1, 92, 0, 0, 0, 1, 0)), (92, (.goto (-64), 95, 28, 0, 0, 0, 0)), (95, (.iload 7, 97, 0, 0, 0, 0, 0))],
  [(97, (.ireturn, 98, 0, 0, 0, 0, 0))]]
def md_X4_placeOf : mMd := (yX4_placeOf, 4, cX4_placeOf, 10, (some .int), mt_X4_placeOf)
def mt_X4_settleRanks : mTab := [[(0, (.iconst 1, 1, 0, 0, 0, 1, 0)), (1, (.istore_n 1, 2, 0, 0, 0, 0, 0)), (2, (.iconst 1, 3, 0, 0, 0, 1, 0)), (3, (.istore_n 2, 4, 0, 0, 0, 0, 0)), (4, (.iload_n 2, 5, 0, 0, 0, 0, 0)), (5, (.aload_n 0, 6, 0, 0, 0, 0, 0)), (6, (.getfield 73, 9, 4, 10, 0, 0, 0)), (9, (.if_icmp .gt 59, 12, 68, 0, 0, 0, 0)), (12, (.iload_n 1, 13, 0, 0, 0, 0, 0)), (13, (.ifCond .eq 55, 16, 68, 0, 0, 0, 0))],
  [(16, (.iconst 0, 17, 0, 0, 0, 0, 0)), (17, (.istore_n 1, 18, 0, 0, 0, 0, 0)), (18, (.aload_n 0, 19, 0, 0, 0, 0, 0)), (19, (.getfield 73, 22, 4, 10, 0, 0, 0)), (22, (.iconst 1, 23, 0, 0, 0, 1, 0)), (23, (.isub, 24, 0, 0, 0, 0, 0)), (24, (.istore_n 3, 25, 0, 0, 0, 0, 0)), (25, (.iload_n 3, 26, 0, 0, 0, 0, 0)), (26, (.ifCond .lt 36, 29, 62, 0, 0, 0, 0)), (29, (.aload_n 0, 30, 0, 0, 0, 0, 0)), (30, (.getfield 16, 33, 4, 4, 2, 0, 0))],
  [(33, (.iload_n 3, 34, 0, 0, 0, 0, 0)), (34, (.iaload, 35, 0, 0, 0, 0, 0)), (35, (.ifCond .ne 21, 38, 56, 0, 0, 0, 0)), (38, (.aload_n 0, 39, 0, 0, 0, 0, 0)), (39, (.iload_n 3, 40, 0, 0, 0, 0, 0)), (40, (.iload_n 2, 41, 0, 0, 0, 0, 0)), (41, (.invokevirtual 126, 44, 43, 3, 4, 0, 0)), (44, (.ifCond .eq 12, 47, 56, 0, 0, 0, 0)), (47, (.aload_n 0, 48, 0, 0, 0, 0, 0))],
  [(48, (.getfield 16, 51, 4, 4, 2, 0, 0)), (51, (.iload_n 3, 52, 0, 0, 0, 0, 0)), (52, (.iload_n 2, 53, 0, 0, 0, 0, 0)), (53, (.iastore, 54, 0, 0, 0, 0, 0)), (54, (.iconst 1, 55, 0, 0, 0, 1, 0)), (55, (.istore_n 1, 56, 0, 0, 0, 0, 0)), (56, (.iinc 3 (-1), 59, 0, 0, 0, (-1), 0)), (59, (.goto (-34), 62, 25, 0, 0, 0, 0)), (62, (.iinc 2 1, 65, 0, 0, 0, 1, 0))],
  [(65, (.goto (-61), 68, 4, 0, 0, 0, 0)), (68, (.return_, 69, 0, 0, 0, 0, 0))]]
def md_X4_settleRanks : mMd := (yX4_settleRanks, 4, cX4_settleRanks, 4, (none : Option Jvm.ClassFile.FieldType), mt_X4_settleRanks)
def mt_X4_winsWithin : mTab := [[(0, (.aload_n 0, 1, 0, 0, 0, 0, 0)), (1, (.getfield 26, 4, 4, 7, 2, 0, 0)), (4, (.iload_n 1, 5, 0, 0, 0, 0, 0)), (5, (.iconst 1, 6, 0, 0, 0, 1, 0)), (6, (.iadd, 7, 0, 0, 0, 0, 0)), (7, (.iaload, 8, 0, 0, 0, 0, 0)), (8, (.aload_n 0, 9, 0, 0, 0, 0, 0)), (9, (.getfield 23, 12, 4, 6, 2, 0, 0)), (12, (.arraylength, 13, 0, 0, 0, 0, 0)), (13, (.invokestatic 130, 16, 194, 2, 0, 0, 0))],
  [(16, (.istore_n 3, 17, 0, 0, 0, 0, 0)), (17, (.iconst 0, 18, 0, 0, 0, 0, 0)), (18, (.istore 4, 20, 0, 0, 0, 0, 0)), (20, (.aload_n 0, 21, 0, 0, 0, 0, 0)), (21, (.getfield 26, 24, 4, 7, 2, 0, 0)), (24, (.iload_n 1, 25, 0, 0, 0, 0, 0)), (25, (.iaload, 26, 0, 0, 0, 0, 0)), (26, (.istore 5, 28, 0, 0, 0, 0, 0)), (28, (.iload 5, 30, 0, 0, 0, 0, 0)), (30, (.iload_n 3, 31, 0, 0, 0, 0, 0)), (31, (.if_icmp .ge 50, 34, 81, 0, 0, 0, 0))],
  [(34, (.iload_n 3, 35, 0, 0, 0, 0, 0)), (35, (.iconst 1, 36, 0, 0, 0, 1, 0)), (36, (.isub, 37, 0, 0, 0, 0, 0)), (37, (.iload 5, 39, 0, 0, 0, 0, 0)), (39, (.iconst 0, 40, 0, 0, 0, 0, 0)), (40, (.aload_n 0, 41, 0, 0, 0, 0, 0)), (41, (.getfield 23, 44, 4, 6, 2, 0, 0)), (44, (.iload 5, 46, 0, 0, 0, 0, 0)), (46, (.iaload, 47, 0, 0, 0, 0, 0)), (47, (.invokestatic 136, 50, 193, 2, 0, 0, 0))],
  [(50, (.iadd, 51, 0, 0, 0, 0, 0)), (51, (.invokestatic 130, 54, 194, 2, 0, 0, 0)), (54, (.istore 4, 56, 0, 0, 0, 0, 0)), (56, (.aload_n 0, 57, 0, 0, 0, 0, 0)), (57, (.iload 5, 59, 0, 0, 0, 0, 0)), (59, (.iconst 1, 60, 0, 0, 0, 1, 0)), (60, (.iadd, 61, 0, 0, 0, 0, 0)), (61, (.iload 4, 63, 0, 0, 0, 0, 0)), (63, (.iload_n 2, 64, 0, 0, 0, 0, 0))],
  [(64, (.invokevirtual 139, 67, 44, 4, 4, 0, 0)), (67, (.ifCond .eq 5, 70, 72, 0, 0, 0, 0)), (70, (.iconst 1, 71, 0, 0, 0, 1, 0)), (71, (.ireturn, 72, 0, 0, 0, 0, 0)), (72, (.iload 4, 74, 0, 0, 0, 0, 0)), (74, (.iconst 1, 75, 0, 0, 0, 1, 0)), (75, (.iadd, 76, 0, 0, 0, 0, 0)), (76, (.istore 5, 78, 0, 0, 0, 0, 0)), (78, (.goto (-50), 81, 28, 0, 0, 0, 0))],
  [(81, (.iconst 0, 82, 0, 0, 0, 0, 0)), (82, (.ireturn, 83, 0, 0, 0, 0, 0))]]
def md_X4_winsWithin : mMd := (yX4_winsWithin, 4, cX4_winsWithin, 6, (some .boolean), mt_X4_winsWithin)
def mt_X4_areBelow : mTab := [[(0, (.iload_n 1, 1, 0, 0, 0, 0, 0)), (1, (.istore 4, 3, 0, 0, 0, 0, 0)), (3, (.iload 4, 5, 0, 0, 0, 0, 0)), (5, (.iload_n 2, 6, 0, 0, 0, 0, 0)), (6, (.if_icmp .gt 65, 9, 71, 0, 0, 0, 0)), (9, (.iload 4, 11, 0, 0, 0, 0, 0)), (11, (.aload_n 0, 12, 0, 0, 0, 0, 0)), (12, (.getfield 23, 15, 4, 6, 2, 0, 0)), (15, (.arraylength, 16, 0, 0, 0, 0, 0))],
  [(16, (.if_icmp .ge 55, 19, 71, 0, 0, 0, 0)), (19, (.aload_n 0, 20, 0, 0, 0, 0, 0)), (20, (.getfield 23, 23, 4, 6, 2, 0, 0)), (23, (.iload 4, 25, 0, 0, 0, 0, 0)), (25, (.iaload, 26, 0, 0, 0, 0, 0)), (26, (.istore 5, 28, 0, 0, 0, 0, 0)), (28, (.iload 5, 30, 0, 0, 0, 0, 0)), (30, (.ifCond .lt 33, 33, 63, 0, 0, 0, 0))],
  [(33, (.iload 5, 35, 0, 0, 0, 0, 0)), (35, (.aload_n 0, 36, 0, 0, 0, 0, 0)), (36, (.getfield 73, 39, 4, 10, 0, 0, 0)), (39, (.if_icmp .ge 24, 42, 63, 0, 0, 0, 0)), (42, (.aload_n 0, 43, 0, 0, 0, 0, 0)), (43, (.getfield 16, 46, 4, 4, 2, 0, 0)), (46, (.iload 5, 48, 0, 0, 0, 0, 0))],
  [(48, (.iaload, 49, 0, 0, 0, 0, 0)), (49, (.ifCond .eq 14, 52, 63, 0, 0, 0, 0)), (52, (.aload_n 0, 53, 0, 0, 0, 0, 0)), (53, (.getfield 16, 56, 4, 4, 2, 0, 0)), (56, (.iload 5, 58, 0, 0, 0, 0, 0)), (58, (.iaload, 59, 0, 0, 0, 0, 0)), (59, (.iload_n 3, 60, 0, 0, 0, 0, 0)), (60, (.if_icmp .lt 5, 63, 65, 0, 0, 0, 0)), (63, (.iconst 0, 64, 0, 0, 0, 0, 0))],
  [(64, (.ireturn, 65, 0, 0, 0, 0, 0)), (65, (.iinc 4 1, 68, 0, 0, 0, 1, 0)), (68, (.goto (-65), 71, 3, 0, 0, 0, 0)), (71, (.iconst 1, 72, 0, 0, 0, 1, 0)), (72, (.ireturn, 73, 0, 0, 0, 0, 0))]]
def md_X4_areBelow : mMd := (yX4_areBelow, 4, cX4_areBelow, 6, (some .boolean), mt_X4_areBelow)
def mt_X4_highestStartRank : mTab := [[(0, (.iconst 0, 1, 0, 0, 0, 0, 0)), (1, (.istore_n 1, 2, 0, 0, 0, 0, 0)), (2, (.iconst 0, 3, 0, 0, 0, 0, 0)), (3, (.istore_n 2, 4, 0, 0, 0, 0, 0)), (4, (.iload_n 2, 5, 0, 0, 0, 0, 0)), (5, (.aload_n 0, 6, 0, 0, 0, 0, 0)), (6, (.getfield 77, 9, 4, 9, 0, 0, 0)), (9, (.if_icmp .ge 31, 12, 40, 0, 0, 0, 0)), (12, (.aload_n 0, 13, 0, 0, 0, 0, 0)), (13, (.getfield 16, 16, 4, 4, 2, 0, 0))],
  [(16, (.iload_n 2, 17, 0, 0, 0, 0, 0)), (17, (.iaload, 18, 0, 0, 0, 0, 0)), (18, (.ifCond .ne 5, 21, 23, 0, 0, 0, 0)), (21, (.iconst 0, 22, 0, 0, 0, 0, 0)), (22, (.ireturn, 23, 0, 0, 0, 0, 0)), (23, (.iload_n 1, 24, 0, 0, 0, 0, 0)), (24, (.aload_n 0, 25, 0, 0, 0, 0, 0)), (25, (.getfield 16, 28, 4, 4, 2, 0, 0)), (28, (.iload_n 2, 29, 0, 0, 0, 0, 0)), (29, (.iaload, 30, 0, 0, 0, 0, 0)), (30, (.invokestatic 136, 33, 193, 2, 0, 0, 0))],
  [(33, (.istore_n 1, 34, 0, 0, 0, 0, 0)), (34, (.iinc 2 1, 37, 0, 0, 0, 1, 0)), (37, (.goto (-33), 40, 4, 0, 0, 0, 0)), (40, (.iload_n 1, 41, 0, 0, 0, 0, 0)), (41, (.ireturn, 42, 0, 0, 0, 0, 0))]]
def md_X4_highestStartRank : mMd := (yX4_highestStartRank, 4, cX4_highestStartRank, 3, (some .int), mt_X4_highestStartRank)
def mt_X4_rankOf : mTab := [[(0, (.aload_n 0, 1, 0, 0, 0, 0, 0)), (1, (.getfield 20, 4, 4, 5, 2, 0, 0)), (4, (.aload_n 0, 5, 0, 0, 0, 0, 0)), (5, (.lload_n 1, 6, 0, 0, 0, 0, 0)), (6, (.lload_n 3, 7, 0, 0, 0, 0, 0)), (7, (.invokevirtual 119, 10, 41, 3, 4, 0, 0)), (10, (.iaload, 11, 0, 0, 0, 0, 0)), (11, (.iconst 1, 12, 0, 0, 0, 1, 0)), (12, (.isub, 13, 0, 0, 0, 0, 0)), (13, (.istore 5, 15, 0, 0, 0, 0, 0)), (15, (.iload 5, 17, 0, 0, 0, 0, 0))],
  [(17, (.ifCond .ge 7, 20, 24, 0, 0, 0, 0)), (20, (.iconst 0, 21, 0, 0, 0, 0, 0)), (21, (.goto 10, 24, 31, 0, 0, 0, 0)), (24, (.aload_n 0, 25, 0, 0, 0, 0, 0)), (25, (.getfield 16, 28, 4, 4, 2, 0, 0)), (28, (.iload 5, 30, 0, 0, 0, 0, 0)), (30, (.iaload, 31, 0, 0, 0, 0, 0)), (31, (.ireturn, 32, 0, 0, 0, 0, 0))]]
def md_X4_rankOf : mMd := (yX4_rankOf, 4, cX4_rankOf, 6, (some .int), mt_X4_rankOf)
def mt_X5_init : mTab := [[(0, (.aload_n 0, 1, 0, 0, 0, 0, 0)), (1, (.invokespecial 1, 4, 1010, 1, 0, 0, 0)), (4, (.aload_n 0, 5, 0, 0, 0, 0, 0)), (5, (.bipush 40, 7, 0, 0, 0, 40, 0)), (7, (.newarray .long, 9, 101, 0, 0, 0, 0)), (9, (.putfield 9, 12, 5, 0, 12, 0, 0)), (12, (.aload_n 0, 13, 0, 0, 0, 0, 0)), (13, (.bipush 40, 15, 0, 0, 0, 40, 0)), (15, (.newarray .double, 17, 102, 0, 0, 0, 0))],
  [(17, (.putfield 13, 20, 5, 1, 12, 0, 0)), (20, (.aload_n 0, 21, 0, 0, 0, 0, 0)), (21, (.bipush 40, 23, 0, 0, 0, 40, 0)), (23, (.newarray .int, 25, 100, 0, 0, 0, 0)), (25, (.putfield 17, 28, 5, 2, 12, 0, 0)), (28, (.aload_n 0, 29, 0, 0, 0, 0, 0)), (29, (.iconst (-1), 30, 0, 0, 0, (-1), 0)), (30, (.putfield 21, 33, 5, 3, 0, 0, 0))],
  [(33, (.return_, 34, 0, 0, 0, 0, 0))]]
def md_X5_init : mMd := (yX5_init, 5, cX5_init, 1, (none : Option Jvm.ClassFile.FieldType), mt_X5_init)
def mt_X5_isEmpty : mTab := [[(0, (.aload_n 0, 1, 0, 0, 0, 0, 0)), (1, (.getfield 21, 4, 5, 3, 0, 0, 0)), (4, (.iconst (-1), 5, 0, 0, 0, (-1), 0)), (5, (.if_icmp .ne 7, 8, 12, 0, 0, 0, 0)), (8, (.iconst 1, 9, 0, 0, 0, 1, 0)), (9, (.goto 4, 12, 13, 0, 0, 0, 0)), (12, (.iconst 0, 13, 0, 0, 0, 0, 0)), (13, (.ireturn, 14, 0, 0, 0, 0, 0))]]
def md_X5_isEmpty : mMd := (yX5_isEmpty, 5, cX5_isEmpty, 1, (some .boolean), mt_X5_isEmpty)
def mt_X5_holdsReals : mTab := [[(0, (.aload_n 0, 1, 0, 0, 0, 0, 0)), (1, (.getfield 21, 4, 5, 3, 0, 0, 0)), (4, (.iconst 2, 5, 0, 0, 0, 2, 0)), (5, (.if_icmp .eq 11, 8, 16, 0, 0, 0, 0)), (8, (.aload_n 0, 9, 0, 0, 0, 0, 0)), (9, (.getfield 21, 12, 5, 3, 0, 0, 0)), (12, (.iconst 3, 13, 0, 0, 0, 3, 0)), (13, (.if_icmp .ne 7, 16, 20, 0, 0, 0, 0))],
  [(16, (.iconst 1, 17, 0, 0, 0, 1, 0)), (17, (.goto 4, 20, 21, 0, 0, 0, 0)), (20, (.iconst 0, 21, 0, 0, 0, 0, 0)), (21, (.ireturn, 22, 0, 0, 0, 0, 0))]]
def md_X5_holdsReals : mMd := (yX5_holdsReals, 5, cX5_holdsReals, 1, (some .boolean), mt_X5_holdsReals)
def mt_X5_covers : mTab := [[(0, (.iload_n 1, 1, 0, 0, 0, 0, 0)), (1, (.ifCond .lt 29, 4, 30, 0, 0, 0, 0)), (4, (.iload_n 2, 5, 0, 0, 0, 0, 0)), (5, (.ifCond .lt 25, 8, 30, 0, 0, 0, 0)), (8, (.iload_n 1, 9, 0, 0, 0, 0, 0)), (9, (.aload_n 0, 10, 0, 0, 0, 0, 0)), (10, (.getfield 25, 13, 5, 4, 0, 0, 0)), (13, (.if_icmp .gt 17, 16, 30, 0, 0, 0, 0))],
  [(16, (.iload_n 2, 17, 0, 0, 0, 0, 0)), (17, (.aload_n 0, 18, 0, 0, 0, 0, 0)), (18, (.getfield 25, 21, 5, 4, 0, 0, 0)), (21, (.iload_n 1, 22, 0, 0, 0, 0, 0)), (22, (.isub, 23, 0, 0, 0, 0, 0)), (23, (.if_icmp .gt 7, 26, 30, 0, 0, 0, 0)), (26, (.iconst 1, 27, 0, 0, 0, 1, 0)), (27, (.goto 4, 30, 31, 0, 0, 0, 0)), (30, (.iconst 0, 31, 0, 0, 0, 0, 0)), (31, (.ireturn, 32, 0, 0, 0, 0, 0))]]
def md_X5_covers : mMd := (yX5_covers, 5, cX5_covers, 3, (some .boolean), mt_X5_covers)
def mt_X5_fillAnew : mTab := [[(0, (.aload_n 0, 1, 0, 0, 0, 0, 0)), (1, (.getfield 9, 4, 5, 0, 2, 0, 0)), (4, (.lconst 0, 5, 0, 0, 0, 0, 0)), (5, (.invokestatic 28, 8, 197, 2, 0, 0, 0)), (8, (.aload_n 0, 9, 0, 0, 0, 0, 0)), (9, (.getfield 13, 12, 5, 1, 2, 0, 0)), (12, (.dconst 0, 13, 0, 0, 0, 0, 0)), (13, (.invokestatic 34, 16, 195, 2, 0, 0, 0))],
  [(16, (.aload_n 0, 17, 0, 0, 0, 0, 0)), (17, (.getfield 17, 20, 5, 2, 2, 0, 0)), (20, (.iconst 0, 21, 0, 0, 0, 0, 0)), (21, (.invokestatic 37, 24, 196, 2, 0, 0, 0)), (24, (.aload_n 0, 25, 0, 0, 0, 0, 0)), (25, (.iload_n 1, 26, 0, 0, 0, 0, 0)), (26, (.putfield 21, 29, 5, 3, 0, 0, 0)), (29, (.aload_n 0, 30, 0, 0, 0, 0, 0)), (30, (.iload_n 2, 31, 0, 0, 0, 0, 0)), (31, (.putfield 25, 34, 5, 4, 0, 0, 0))],
  [(34, (.return_, 35, 0, 0, 0, 0, 0))]]
def md_X5_fillAnew : mMd := (yX5_fillAnew, 5, cX5_fillAnew, 3, (none : Option Jvm.ClassFile.FieldType), mt_X5_fillAnew)
def mt_X5_drop : mTab := [[(0, (.aload_n 0, 1, 0, 0, 0, 0, 0)), (1, (.invokevirtual 40, 4, 48, 1, 5, 0, 0)), (4, (.ifCond .ne 7, 7, 11, 0, 0, 0, 0)), (7, (.iconst 1, 8, 0, 0, 0, 1, 0)), (8, (.goto 4, 11, 12, 0, 0, 0, 0)), (11, (.iconst 0, 12, 0, 0, 0, 0, 0)), (12, (.istore_n 1, 13, 0, 0, 0, 0, 0)), (13, (.aload_n 0, 14, 0, 0, 0, 0, 0)), (14, (.iconst (-1), 15, 0, 0, 0, (-1), 0)), (15, (.putfield 21, 18, 5, 3, 0, 0, 0))],
  [(18, (.aload_n 0, 19, 0, 0, 0, 0, 0)), (19, (.iconst 0, 20, 0, 0, 0, 0, 0)), (20, (.putfield 25, 23, 5, 4, 0, 0, 0)), (23, (.iload_n 1, 24, 0, 0, 0, 0, 0)), (24, (.ireturn, 25, 0, 0, 0, 0, 0))]]
def md_X5_drop : mMd := (yX5_drop, 5, cX5_drop, 2, (some .boolean), mt_X5_drop)
def mt_X5_write : mTab := [[(0, (.aload_n 0, 1, 0, 0, 0, 0, 0)), (1, (.iload_n 1, 2, 0, 0, 0, 0, 0)), (2, (.iconst 1, 3, 0, 0, 0, 1, 0)), (3, (.invokevirtual 44, 6, 50, 3, 5, 0, 0)), (6, (.ifCond .ne 4, 9, 10, 0, 0, 0, 0)), (9, (.return_, 10, 0, 0, 0, 0, 0)), (10, (.aload_n 0, 11, 0, 0, 0, 0, 0)), (11, (.getfield 17, 14, 5, 2, 2, 0, 0)), (14, (.iload_n 1, 15, 0, 0, 0, 0, 0)), (15, (.iconst 0, 16, 0, 0, 0, 0, 0))],
  [(16, (.iastore, 17, 0, 0, 0, 0, 0)), (17, (.aload_n 0, 18, 0, 0, 0, 0, 0)), (18, (.getfield 21, 21, 5, 3, 0, 0, 0)), (21, (.tableswitch 62 0 2 #[27, 40, 50], 48, 0, 0, 0, 0, 0))],
  [],
  [(48, (.aload_n 0, 49, 0, 0, 0, 0, 0)), (49, (.getfield 9, 52, 5, 0, 2, 0, 0)), (52, (.iload_n 1, 53, 0, 0, 0, 0, 0)), (53, (.lload_n 2, 54, 0, 0, 0, 0, 0)), (54, (.l2i, 55, 0, 0, 0, 0, 0)), (55, (.i2b, 56, 0, 0, 0, 0, 0)), (56, (.i2l, 57, 0, 0, 0, 0, 0)), (57, (.lastore, 58, 0, 0, 0, 0, 0)), (58, (.goto 33, 61, 91, 0, 0, 0, 0)), (61, (.aload_n 0, 62, 0, 0, 0, 0, 0)), (62, (.getfield 9, 65, 5, 0, 2, 0, 0))],
  [(65, (.iload_n 1, 66, 0, 0, 0, 0, 0)), (66, (.lload_n 2, 67, 0, 0, 0, 0, 0)), (67, (.lastore, 68, 0, 0, 0, 0, 0)), (68, (.goto 23, 71, 91, 0, 0, 0, 0)), (71, (.aload_n 0, 72, 0, 0, 0, 0, 0)), (72, (.getfield 13, 75, 5, 1, 2, 0, 0)), (75, (.iload_n 1, 76, 0, 0, 0, 0, 0)), (76, (.lload_n 2, 77, 0, 0, 0, 0, 0)), (77, (.l2f, 78, 0, 0, 0, 0, 0)), (78, (.f2d, 79, 0, 0, 0, 0, 0)), (79, (.dastore, 80, 0, 0, 0, 0, 0))],
  [(80, (.goto 11, 83, 91, 0, 0, 0, 0)), (83, (.aload_n 0, 84, 0, 0, 0, 0, 0)), (84, (.getfield 13, 87, 5, 1, 2, 0, 0)), (87, (.iload_n 1, 88, 0, 0, 0, 0, 0)), (88, (.lload_n 2, 89, 0, 0, 0, 0, 0)), (89, (.l2d, 90, 0, 0, 0, 0, 0)), (90, (.dastore, 91, 0, 0, 0, 0, 0)), (91, (.return_, 92, 0, 0, 0, 0, 0))]]
def md_X5_write : mMd := (yX5_write, 5, cX5_write, 4, (none : Option Jvm.ClassFile.FieldType), mt_X5_write)
def mt_X5_read : mTab := [[(0, (.aload_n 0, 1, 0, 0, 0, 0, 0)), (1, (.iload_n 1, 2, 0, 0, 0, 0, 0)), (2, (.iconst 1, 3, 0, 0, 0, 1, 0)), (3, (.invokevirtual 44, 6, 50, 3, 5, 0, 0)), (6, (.ifCond .ne 5, 9, 11, 0, 0, 0, 0)), (9, (.lconst 0, 10, 0, 0, 0, 0, 0)), (10, (.lreturn, 11, 0, 0, 0, 0, 0)), (11, (.aload_n 0, 12, 0, 0, 0, 0, 0)), (12, (.invokevirtual 48, 15, 49, 1, 5, 0, 0)), (15, (.ifCond .ne 10, 18, 25, 0, 0, 0, 0))],
  [(18, (.aload_n 0, 19, 0, 0, 0, 0, 0)), (19, (.getfield 9, 22, 5, 0, 2, 0, 0)), (22, (.iload_n 1, 23, 0, 0, 0, 0, 0)), (23, (.laload, 24, 0, 0, 0, 0, 0)), (24, (.lreturn, 25, 0, 0, 0, 0, 0)), (25, (.aload_n 0, 26, 0, 0, 0, 0, 0)), (26, (.getfield 17, 29, 5, 2, 2, 0, 0)), (29, (.iload_n 1, 30, 0, 0, 0, 0, 0)), (30, (.iaload, 31, 0, 0, 0, 0, 0)), (31, (.tableswitch 35 1 3 #[25, 29, 33], 56, 0, 0, 0, 0, 0))],
  [],
  [(56, (.ldc2_w 53, 59, 0, 0, 0, 0, 9223372036854775807)), (59, (.lreturn, 60, 0, 0, 0, 0, 0)), (60, (.ldc2_w 55, 63, 0, 0, 0, 0, (-9223372036854775808))), (63, (.lreturn, 64, 0, 0, 0, 0, 0))],
  [(64, (.lconst 0, 65, 0, 0, 0, 0, 0)), (65, (.lreturn, 66, 0, 0, 0, 0, 0)), (66, (.aload_n 0, 67, 0, 0, 0, 0, 0)), (67, (.getfield 13, 70, 5, 1, 2, 0, 0)), (70, (.iload_n 1, 71, 0, 0, 0, 0, 0)), (71, (.daload, 72, 0, 0, 0, 0, 0)), (72, (.d2l, 73, 0, 0, 0, 0, 0)), (73, (.lreturn, 74, 0, 0, 0, 0, 0))]]
def md_X5_read : mMd := (yX5_read, 5, cX5_read, 2, (some .long), mt_X5_read)
def mt_X5_divide : mTab := [[(0, (.aload_n 0, 1, 0, 0, 0, 0, 0)), (1, (.iload_n 1, 2, 0, 0, 0, 0, 0)), (2, (.iconst 1, 3, 0, 0, 0, 1, 0)), (3, (.invokevirtual 44, 6, 50, 3, 5, 0, 0)), (6, (.ifCond .eq 13, 9, 19, 0, 0, 0, 0)), (9, (.aload_n 0, 10, 0, 0, 0, 0, 0)), (10, (.getfield 17, 13, 5, 2, 2, 0, 0)), (13, (.iload_n 1, 14, 0, 0, 0, 0, 0)), (14, (.iaload, 15, 0, 0, 0, 0, 0)), (15, (.iconst 3, 16, 0, 0, 0, 3, 0))],
  [(16, (.if_icmp .ne 4, 19, 20, 0, 0, 0, 0)), (19, (.return_, 20, 0, 0, 0, 0, 0)), (20, (.aload_n 0, 21, 0, 0, 0, 0, 0)), (21, (.getfield 13, 24, 5, 1, 2, 0, 0)), (24, (.iload_n 1, 25, 0, 0, 0, 0, 0)), (25, (.daload, 26, 0, 0, 0, 0, 0)), (26, (.dstore_n 3, 27, 0, 0, 0, 0, 0)), (27, (.aload_n 0, 28, 0, 0, 0, 0, 0)), (28, (.getfield 17, 31, 5, 2, 2, 0, 0)), (31, (.iload_n 1, 32, 0, 0, 0, 0, 0))],
  [(32, (.iaload, 33, 0, 0, 0, 0, 0)), (33, (.ifCond .eq 31, 36, 64, 0, 0, 0, 0)), (36, (.iload_n 2, 37, 0, 0, 0, 0, 0)), (37, (.ifCond .ge 94, 40, 131, 0, 0, 0, 0)), (40, (.aload_n 0, 41, 0, 0, 0, 0, 0)), (41, (.getfield 17, 44, 5, 2, 2, 0, 0)), (44, (.iload_n 1, 45, 0, 0, 0, 0, 0)), (45, (.aload_n 0, 46, 0, 0, 0, 0, 0)), (46, (.getfield 17, 49, 5, 2, 2, 0, 0))],
  [(49, (.iload_n 1, 50, 0, 0, 0, 0, 0)), (50, (.iaload, 51, 0, 0, 0, 0, 0)), (51, (.iconst 1, 52, 0, 0, 0, 1, 0)), (52, (.if_icmp .ne 7, 55, 59, 0, 0, 0, 0)), (55, (.iconst 2, 56, 0, 0, 0, 2, 0)), (56, (.goto 4, 59, 60, 0, 0, 0, 0)), (59, (.iconst 1, 60, 0, 0, 0, 1, 0)), (60, (.iastore, 61, 0, 0, 0, 0, 0)), (61, (.goto 70, 64, 131, 0, 0, 0, 0))],
  [(64, (.iload_n 2, 65, 0, 0, 0, 0, 0)), (65, (.ifCond .ne 33, 68, 98, 0, 0, 0, 0)), (68, (.aload_n 0, 69, 0, 0, 0, 0, 0)), (69, (.getfield 17, 72, 5, 2, 2, 0, 0)), (72, (.iload_n 1, 73, 0, 0, 0, 0, 0)), (73, (.dload_n 3, 74, 0, 0, 0, 0, 0)), (74, (.dconst 0, 75, 0, 0, 0, 0, 0)), (75, (.dcmp .l, 76, 0, 0, 0, 0, 0)), (76, (.ifCond .le 7, 79, 83, 0, 0, 0, 0)), (79, (.iconst 1, 80, 0, 0, 0, 1, 0))],
  [(80, (.goto 14, 83, 94, 0, 0, 0, 0)), (83, (.dload_n 3, 84, 0, 0, 0, 0, 0)), (84, (.dconst 0, 85, 0, 0, 0, 0, 0)), (85, (.dcmp .g, 86, 0, 0, 0, 0, 0)), (86, (.ifCond .ge 7, 89, 93, 0, 0, 0, 0)), (89, (.iconst 2, 90, 0, 0, 0, 2, 0)), (90, (.goto 4, 93, 94, 0, 0, 0, 0)), (93, (.iconst 3, 94, 0, 0, 0, 3, 0)), (94, (.iastore, 95, 0, 0, 0, 0, 0)), (95, (.goto 36, 98, 131, 0, 0, 0, 0))],
  [(98, (.aload_n 0, 99, 0, 0, 0, 0, 0)), (99, (.getfield 21, 102, 5, 3, 0, 0, 0)), (102, (.iconst 2, 103, 0, 0, 0, 2, 0)), (103, (.if_icmp .ne 18, 106, 121, 0, 0, 0, 0)), (106, (.aload_n 0, 107, 0, 0, 0, 0, 0)), (107, (.getfield 13, 110, 5, 1, 2, 0, 0)), (110, (.iload_n 1, 111, 0, 0, 0, 0, 0)), (111, (.dload_n 3, 112, 0, 0, 0, 0, 0))],
  [(112, (.d2f, 113, 0, 0, 0, 0, 0)), (113, (.iload_n 2, 114, 0, 0, 0, 0, 0)), (114, (.i2f, 115, 0, 0, 0, 0, 0)), (115, (.fdiv, 116, 0, 0, 0, 0, 0)), (116, (.f2d, 117, 0, 0, 0, 0, 0)), (117, (.dastore, 118, 0, 0, 0, 0, 0)), (118, (.goto 13, 121, 131, 0, 0, 0, 0)), (121, (.aload_n 0, 122, 0, 0, 0, 0, 0)), (122, (.getfield 13, 125, 5, 1, 2, 0, 0)), (125, (.iload_n 1, 126, 0, 0, 0, 0, 0)), (126, (.dload_n 3, 127, 0, 0, 0, 0, 0)), (127, (.iload_n 2, 128, 0, 0, 0, 0, 0))],
  [(128, (.i2d, 129, 0, 0, 0, 0, 0)), (129, (.ddiv, 130, 0, 0, 0, 0, 0)), (130, (.dastore, 131, 0, 0, 0, 0, 0)), (131, (.return_, 132, 0, 0, 0, 0, 0))]]
def md_X5_divide : mMd := (yX5_divide, 5, cX5_divide, 5, (none : Option Jvm.ClassFile.FieldType), mt_X5_divide)
def mt_X5_keepRemainder : mTab := [[(0, (.aload_n 0, 1, 0, 0, 0, 0, 0)), (1, (.iload_n 1, 2, 0, 0, 0, 0, 0)), (2, (.iconst 1, 3, 0, 0, 0, 1, 0)), (3, (.invokevirtual 44, 6, 50, 3, 5, 0, 0)), (6, (.ifCond .ne 4, 9, 10, 0, 0, 0, 0)), (9, (.return_, 10, 0, 0, 0, 0, 0)), (10, (.aload_n 0, 11, 0, 0, 0, 0, 0)), (11, (.getfield 17, 14, 5, 2, 2, 0, 0)), (14, (.iload_n 1, 15, 0, 0, 0, 0, 0)), (15, (.iaload, 16, 0, 0, 0, 0, 0))],
  [(16, (.ifCond .ne 7, 19, 23, 0, 0, 0, 0)), (19, (.iload_n 2, 20, 0, 0, 0, 0, 0)), (20, (.ifCond .ne 11, 23, 31, 0, 0, 0, 0)), (23, (.aload_n 0, 24, 0, 0, 0, 0, 0)), (24, (.getfield 17, 27, 5, 2, 2, 0, 0)), (27, (.iload_n 1, 28, 0, 0, 0, 0, 0)), (28, (.iconst 3, 29, 0, 0, 0, 3, 0)), (29, (.iastore, 30, 0, 0, 0, 0, 0)), (30, (.return_, 31, 0, 0, 0, 0, 0)), (31, (.aload_n 0, 32, 0, 0, 0, 0, 0))],
  [(32, (.getfield 21, 35, 5, 3, 0, 0, 0)), (35, (.iconst 2, 36, 0, 0, 0, 2, 0)), (36, (.if_icmp .ne 9, 39, 45, 0, 0, 0, 0)), (39, (.iload_n 2, 40, 0, 0, 0, 0, 0)), (40, (.i2f, 41, 0, 0, 0, 0, 0)), (41, (.f2l, 42, 0, 0, 0, 0, 0)), (42, (.goto 5, 45, 47, 0, 0, 0, 0)), (45, (.iload_n 2, 46, 0, 0, 0, 0, 0)), (46, (.i2l, 47, 0, 0, 0, 0, 0)), (47, (.lstore_n 3, 48, 0, 0, 0, 0, 0))],
  [(48, (.aload_n 0, 49, 0, 0, 0, 0, 0)), (49, (.getfield 13, 52, 5, 1, 2, 0, 0)), (52, (.iload_n 1, 53, 0, 0, 0, 0, 0)), (53, (.aload_n 0, 54, 0, 0, 0, 0, 0)), (54, (.getfield 13, 57, 5, 1, 2, 0, 0)), (57, (.iload_n 1, 58, 0, 0, 0, 0, 0)), (58, (.daload, 59, 0, 0, 0, 0, 0)), (59, (.lload_n 3, 60, 0, 0, 0, 0, 0)), (60, (.invokestatic 57, 63, 57, 2, 0, 0, 0)), (63, (.dastore, 64, 0, 0, 0, 0, 0))],
  [(64, (.return_, 65, 0, 0, 0, 0, 0))]]
def md_X5_keepRemainder : mMd := (yX5_keepRemainder, 5, cX5_keepRemainder, 5, (none : Option Jvm.ClassFile.FieldType), mt_X5_keepRemainder)
def mt_X5_remainderOf : mTab := [[(0, (.lload_n 2, 1, 0, 0, 0, 0, 0)), (1, (.lconst 0, 2, 0, 0, 0, 0, 0)), (2, (.lcmp, 3, 0, 0, 0, 0, 0)), (3, (.ifCond .ne 5, 6, 8, 0, 0, 0, 0)), (6, (.dload_n 0, 7, 0, 0, 0, 0, 0)), (7, (.dreturn, 8, 0, 0, 0, 0, 0)), (8, (.dload_n 0, 9, 0, 0, 0, 0, 0)), (9, (.dconst 0, 10, 0, 0, 0, 0, 0)), (10, (.dcmp .g, 11, 0, 0, 0, 0, 0)), (11, (.ifCond .ge 7, 14, 18, 0, 0, 0, 0)), (14, (.dload_n 0, 15, 0, 0, 0, 0, 0)), (15, (.goto 5, 18, 20, 0, 0, 0, 0))],
  [(18, (.dload_n 0, 19, 0, 0, 0, 0, 0)), (19, (.dneg, 20, 0, 0, 0, 0, 0)), (20, (.dstore 4, 22, 0, 0, 0, 0, 0)), (22, (.dload 4, 24, 0, 0, 0, 0, 0)), (24, (.d2l, 25, 0, 0, 0, 0, 0)), (25, (.lstore 6, 27, 0, 0, 0, 0, 0)), (27, (.lload 6, 29, 0, 0, 0, 0, 0)), (29, (.lload_n 2, 30, 0, 0, 0, 0, 0)), (30, (.lrem, 31, 0, 0, 0, 0, 0)), (31, (.l2d, 32, 0, 0, 0, 0, 0))],
  [(32, (.dload 4, 34, 0, 0, 0, 0, 0)), (34, (.lload 6, 36, 0, 0, 0, 0, 0)), (36, (.l2d, 37, 0, 0, 0, 0, 0)), (37, (.dsub, 38, 0, 0, 0, 0, 0)), (38, (.dadd, 39, 0, 0, 0, 0, 0)), (39, (.dstore 8, 41, 0, 0, 0, 0, 0)), (41, (.dload_n 0, 42, 0, 0, 0, 0, 0)), (42, (.dconst 0, 43, 0, 0, 0, 0, 0)), (43, (.dcmp .g, 44, 0, 0, 0, 0, 0)), (44, (.ifCond .ge 8, 47, 52, 0, 0, 0, 0)), (47, (.dload 8, 49, 0, 0, 0, 0, 0))],
  [(49, (.goto 6, 52, 55, 0, 0, 0, 0)), (52, (.dload 8, 54, 0, 0, 0, 0, 0)), (54, (.dneg, 55, 0, 0, 0, 0, 0)), (55, (.dreturn, 56, 0, 0, 0, 0, 0))]]
def md_X5_remainderOf : mMd := (yX5_remainderOf, 5, cX5_remainderOf, 10, (some .double), mt_X5_remainderOf)
def mt_X5_copyTo : mTab := [[(0, (.aload_n 0, 1, 0, 0, 0, 0, 0)), (1, (.iload_n 1, 2, 0, 0, 0, 0, 0)), (2, (.iload 4, 4, 0, 0, 0, 0, 0)), (4, (.invokevirtual 44, 7, 50, 3, 5, 0, 0)), (7, (.ifCond .eq 13, 10, 20, 0, 0, 0, 0)), (10, (.aload_n 2, 11, 0, 0, 0, 0, 0)), (11, (.iload_n 3, 12, 0, 0, 0, 0, 0)), (12, (.iload 4, 14, 0, 0, 0, 0, 0)), (14, (.invokevirtual 44, 17, 50, 3, 5, 0, 0))],
  [(17, (.ifCond .ne 4, 20, 21, 0, 0, 0, 0)), (20, (.return_, 21, 0, 0, 0, 0, 0)), (21, (.aload_n 0, 22, 0, 0, 0, 0, 0)), (22, (.getfield 9, 25, 5, 0, 2, 0, 0)), (25, (.iload_n 1, 26, 0, 0, 0, 0, 0)), (26, (.aload_n 2, 27, 0, 0, 0, 0, 0)), (27, (.getfield 9, 30, 5, 0, 2, 0, 0)), (30, (.iload_n 3, 31, 0, 0, 0, 0, 0)), (31, (.iload 4, 33, 0, 0, 0, 0, 0))],
  [(33, (.invokestatic 61, 36, 1000, 5, 0, 0, 0)), (36, (.aload_n 0, 37, 0, 0, 0, 0, 0)), (37, (.getfield 13, 40, 5, 1, 2, 0, 0)), (40, (.iload_n 1, 41, 0, 0, 0, 0, 0)), (41, (.aload_n 2, 42, 0, 0, 0, 0, 0)), (42, (.getfield 13, 45, 5, 1, 2, 0, 0)), (45, (.iload_n 3, 46, 0, 0, 0, 0, 0)), (46, (.iload 4, 48, 0, 0, 0, 0, 0))],
  [(48, (.invokestatic 61, 51, 1000, 5, 0, 0, 0)), (51, (.aload_n 0, 52, 0, 0, 0, 0, 0)), (52, (.getfield 17, 55, 5, 2, 2, 0, 0)), (55, (.iload_n 1, 56, 0, 0, 0, 0, 0)), (56, (.aload_n 2, 57, 0, 0, 0, 0, 0)), (57, (.getfield 17, 60, 5, 2, 2, 0, 0)), (60, (.iload_n 3, 61, 0, 0, 0, 0, 0)), (61, (.iload 4, 63, 0, 0, 0, 0, 0)), (63, (.invokestatic 61, 66, 1000, 5, 0, 0, 0))],
  [(66, (.return_, 67, 0, 0, 0, 0, 0))]]
def md_X5_copyTo : mMd := (yX5_copyTo, 5, cX5_copyTo, 5, (none : Option Jvm.ClassFile.FieldType), mt_X5_copyTo)
def mt_X6_init : mTab := [[(0, (.aload_n 0, 1, 0, 0, 0, 0, 0)), (1, (.invokespecial 3, 4, 1010, 1, 0, 0, 0)), (4, (.aload_n 0, 5, 0, 0, 0, 0, 0)), (5, (.bipush 40, 7, 0, 0, 0, 40, 0)), (7, (.newarray .int, 9, 100, 0, 0, 0, 0)), (9, (.putfield 11, 12, 6, 1, 12, 0, 0)), (12, (.aload_n 0, 13, 0, 0, 0, 0, 0)), (13, (.bipush 40, 15, 0, 0, 0, 40, 0)), (15, (.newarray .int, 17, 100, 0, 0, 0, 0))],
  [(17, (.putfield 17, 20, 6, 2, 12, 0, 0)), (20, (.aload_n 0, 21, 0, 0, 0, 0, 0)), (21, (.aload_n 1, 22, 0, 0, 0, 0, 0)), (22, (.putfield 20, 25, 6, 0, 12, 0, 0)), (25, (.return_, 26, 0, 0, 0, 0, 0))]]
def md_X6_init : mMd := (yX6_init, 6, cX6_init, 2, (none : Option Jvm.ClassFile.FieldType), mt_X6_init)
def mt_X6_faultIn : mTab := [[(0, (.iconst 1, 1, 0, 0, 0, 1, 0)), (1, (.istore_n 2, 2, 0, 0, 0, 0, 0)), (2, (.iconst 0, 3, 0, 0, 0, 0, 0)), (3, (.istore_n 3, 4, 0, 0, 0, 0, 0)), (4, (.iconst 0, 5, 0, 0, 0, 0, 0)), (5, (.istore 4, 7, 0, 0, 0, 0, 0)), (7, (.iload 4, 9, 0, 0, 0, 0, 0)), (9, (.aload_n 1, 10, 0, 0, 0, 0, 0)), (10, (.getfield 24, 13, 3, 1, 0, 0, 0)), (13, (.if_icmp .ge 91, 16, 104, 0, 0, 0, 0))],
  [(16, (.aload_n 1, 17, 0, 0, 0, 0, 0)), (17, (.iload 4, 19, 0, 0, 0, 0, 0)), (19, (.invokevirtual 28, 22, 31, 2, 3, 0, 0)), (22, (.istore 5, 24, 0, 0, 0, 0, 0)), (24, (.iload_n 2, 25, 0, 0, 0, 0, 0)), (25, (.ifCond .eq 39, 28, 64, 0, 0, 0, 0)), (28, (.iload 5, 30, 0, 0, 0, 0, 0)), (30, (.bipush 40, 32, 0, 0, 0, 40, 0))],
  [(32, (.if_icmp .ne 9, 35, 41, 0, 0, 0, 0)), (35, (.iinc 3 1, 38, 0, 0, 0, 1, 0)), (38, (.goto 60, 41, 98, 0, 0, 0, 0)), (41, (.iload 5, 43, 0, 0, 0, 0, 0)), (43, (.invokestatic 32, 46, 67, 1, 0, 0, 0)), (46, (.ifCond .eq 8, 49, 54, 0, 0, 0, 0))],
  [(49, (.iconst 0, 50, 0, 0, 0, 0, 0)), (50, (.istore_n 2, 51, 0, 0, 0, 0, 0)), (51, (.goto 47, 54, 98, 0, 0, 0, 0)), (54, (.iload 5, 56, 0, 0, 0, 0, 0)), (56, (.bipush 126, 58, 0, 0, 0, 126, 0)), (58, (.if_icmp .eq 40, 61, 98, 0, 0, 0, 0)), (61, (.iload 4, 63, 0, 0, 0, 0, 0)), (63, (.ireturn, 64, 0, 0, 0, 0, 0))],
  [(64, (.iload 5, 66, 0, 0, 0, 0, 0)), (66, (.bipush 41, 68, 0, 0, 0, 41, 0)), (68, (.if_icmp .ne 13, 71, 81, 0, 0, 0, 0)), (71, (.iload_n 3, 72, 0, 0, 0, 0, 0)), (72, (.ifCond .le 9, 75, 81, 0, 0, 0, 0)), (75, (.iinc 3 (-1), 78, 0, 0, 0, (-1), 0)), (78, (.goto 20, 81, 98, 0, 0, 0, 0))],
  [(81, (.iload 5, 83, 0, 0, 0, 0, 0)), (83, (.invokestatic 36, 86, 68, 1, 0, 0, 0)), (86, (.iconst 2, 87, 0, 0, 0, 2, 0)), (87, (.if_icmp .lt 8, 90, 95, 0, 0, 0, 0)), (90, (.iconst 1, 91, 0, 0, 0, 1, 0)), (91, (.istore_n 2, 92, 0, 0, 0, 0, 0)), (92, (.goto 6, 95, 98, 0, 0, 0, 0)), (95, (.iload 4, 97, 0, 0, 0, 0, 0))],
  [(97, (.ireturn, 98, 0, 0, 0, 0, 0)), (98, (.iinc 4 1, 101, 0, 0, 0, 1, 0)), (101, (.goto (-94), 104, 7, 0, 0, 0, 0)), (104, (.iload_n 2, 105, 0, 0, 0, 0, 0)), (105, (.ifCond .ne 7, 108, 112, 0, 0, 0, 0)), (108, (.iload_n 3, 109, 0, 0, 0, 0, 0)), (109, (.ifCond .le 10, 112, 119, 0, 0, 0, 0))],
  [(112, (.aload_n 1, 113, 0, 0, 0, 0, 0)), (113, (.getfield 24, 116, 3, 1, 0, 0, 0)), (116, (.goto 4, 119, 120, 0, 0, 0, 0)), (119, (.iconst (-1), 120, 0, 0, 0, (-1), 0)), (120, (.ireturn, 121, 0, 0, 0, 0, 0))]]
def md_X6_faultIn : mMd := (yX6_faultIn, 6, cX6_faultIn, 6, (some .int), mt_X6_faultIn)
def mt_X6_build : mTab := [[(0, (.aload_n 0, 1, 0, 0, 0, 0, 0)), (1, (.getfield 20, 4, 6, 0, 2, 0, 0)), (4, (.getfield 41, 7, 2, 6, 0, 0, 0)), (7, (.istore_n 2, 8, 0, 0, 0, 0, 0)), (8, (.aload_n 0, 9, 0, 0, 0, 0, 0)), (9, (.iconst 0, 10, 0, 0, 0, 0, 0)), (10, (.putfield 44, 13, 6, 3, 0, 0, 0)), (13, (.aload_n 0, 14, 0, 0, 0, 0, 0)), (14, (.iconst 0, 15, 0, 0, 0, 0, 0)), (15, (.putfield 47, 18, 6, 4, 0, 0, 0))],
  [(18, (.aload_n 0, 19, 0, 0, 0, 0, 0)), (19, (.iconst 0, 20, 0, 0, 0, 0, 0)), (20, (.putfield 50, 23, 6, 5, 3, 0, 0)), (23, (.iconst 0, 24, 0, 0, 0, 0, 0)), (24, (.istore_n 3, 25, 0, 0, 0, 0, 0)), (25, (.iload_n 3, 26, 0, 0, 0, 0, 0)), (26, (.aload_n 1, 27, 0, 0, 0, 0, 0)), (27, (.getfield 24, 30, 3, 1, 0, 0, 0)), (30, (.if_icmp .ge 18, 33, 48, 0, 0, 0, 0))],
  [(33, (.aload_n 0, 34, 0, 0, 0, 0, 0)), (34, (.aload_n 1, 35, 0, 0, 0, 0, 0)), (35, (.iload_n 3, 36, 0, 0, 0, 0, 0)), (36, (.invokevirtual 28, 39, 31, 2, 3, 0, 0)), (39, (.invokevirtual 54, 42, 62, 2, 6, 0, 0)), (42, (.iinc 3 1, 45, 0, 0, 0, 1, 0)), (45, (.goto (-20), 48, 25, 0, 0, 0, 0))],
  [(48, (.aload_n 0, 49, 0, 0, 0, 0, 0)), (49, (.iconst 4, 50, 0, 0, 0, 4, 0)), (50, (.invokevirtual 58, 53, 63, 2, 6, 0, 0)), (53, (.aload_n 0, 54, 0, 0, 0, 0, 0)), (54, (.getfield 50, 57, 6, 5, 3, 0, 0)), (57, (.ifCond .ne 11, 60, 68, 0, 0, 0, 0)), (60, (.aload_n 0, 61, 0, 0, 0, 0, 0)), (61, (.getfield 47, 64, 6, 4, 0, 0, 0))],
  [(64, (.iconst 1, 65, 0, 0, 0, 1, 0)), (65, (.if_icmp .eq 14, 68, 79, 0, 0, 0, 0)), (68, (.aload_n 0, 69, 0, 0, 0, 0, 0)), (69, (.getfield 20, 72, 6, 0, 2, 0, 0)), (72, (.iload_n 2, 73, 0, 0, 0, 0, 0)), (73, (.invokevirtual 61, 76, 24, 2, 2, 0, 0)), (76, (.bipush (-3), 78, 0, 0, 0, (-3), 0)), (78, (.ireturn, 79, 0, 0, 0, 0, 0)), (79, (.aload_n 0, 80, 0, 0, 0, 0, 0))],
  [(80, (.getfield 17, 83, 6, 2, 2, 0, 0)), (83, (.iconst 0, 84, 0, 0, 0, 0, 0)), (84, (.iaload, 85, 0, 0, 0, 0, 0)), (85, (.ireturn, 86, 0, 0, 0, 0, 0))]]
def md_X6_build : mMd := (yX6_build, 6, cX6_build, 4, (some .int), mt_X6_build)
def mt_X6_take : mTab := [[(0, (.iload_n 1, 1, 0, 0, 0, 0, 0)), (1, (.invokestatic 32, 4, 67, 1, 0, 0, 0)), (4, (.ifCond .eq 14, 7, 18, 0, 0, 0, 0)), (7, (.aload_n 0, 8, 0, 0, 0, 0, 0)), (8, (.iload_n 1, 9, 0, 0, 0, 0, 0)), (9, (.bipush 112, 11, 0, 0, 0, 112, 0)), (11, (.isub, 12, 0, 0, 0, 0, 0)), (12, (.invokevirtual 64, 15, 66, 2, 6, 0, 0)), (15, (.goto 69, 18, 84, 0, 0, 0, 0))],
  [(18, (.iload_n 1, 19, 0, 0, 0, 0, 0)), (19, (.bipush 40, 21, 0, 0, 0, 40, 0)), (21, (.if_icmp .ne 11, 24, 32, 0, 0, 0, 0)), (24, (.aload_n 0, 25, 0, 0, 0, 0, 0)), (25, (.iconst 5, 26, 0, 0, 0, 5, 0)), (26, (.invokevirtual 67, 29, 65, 2, 6, 0, 0)), (29, (.goto 55, 32, 84, 0, 0, 0, 0))],
  [(32, (.iload_n 1, 33, 0, 0, 0, 0, 0)), (33, (.bipush 41, 35, 0, 0, 0, 41, 0)), (35, (.if_icmp .ne 25, 38, 60, 0, 0, 0, 0)), (38, (.aload_n 0, 39, 0, 0, 0, 0, 0)), (39, (.iconst 4, 40, 0, 0, 0, 4, 0)), (40, (.invokevirtual 58, 43, 63, 2, 6, 0, 0)), (43, (.aload_n 0, 44, 0, 0, 0, 0, 0)), (44, (.iconst 0, 45, 0, 0, 0, 0, 0)), (45, (.aload_n 0, 46, 0, 0, 0, 0, 0)), (46, (.getfield 44, 49, 6, 3, 0, 0, 0))],
  [(49, (.iconst 1, 50, 0, 0, 0, 1, 0)), (50, (.isub, 51, 0, 0, 0, 0, 0)), (51, (.invokestatic 70, 54, 193, 2, 0, 0, 0)), (54, (.putfield 44, 57, 6, 3, 0, 0, 0)), (57, (.goto 27, 60, 84, 0, 0, 0, 0)), (60, (.iload_n 1, 61, 0, 0, 0, 0, 0)), (61, (.invokestatic 36, 64, 68, 1, 0, 0, 0))],
  [(64, (.istore_n 2, 65, 0, 0, 0, 0, 0)), (65, (.iload_n 2, 66, 0, 0, 0, 0, 0)), (66, (.iconst 1, 67, 0, 0, 0, 1, 0)), (67, (.if_icmp .eq 12, 70, 79, 0, 0, 0, 0)), (70, (.aload_n 0, 71, 0, 0, 0, 0, 0)), (71, (.iload_n 2, 72, 0, 0, 0, 0, 0)), (72, (.iconst 3, 73, 0, 0, 0, 3, 0)), (73, (.invokestatic 76, 76, 194, 2, 0, 0, 0)), (76, (.invokevirtual 58, 79, 63, 2, 6, 0, 0)), (79, (.aload_n 0, 80, 0, 0, 0, 0, 0))],
  [(80, (.iload_n 2, 81, 0, 0, 0, 0, 0)), (81, (.invokevirtual 67, 84, 65, 2, 6, 0, 0)), (84, (.return_, 85, 0, 0, 0, 0, 0))]]
def md_X6_take : mMd := (yX6_take, 6, cX6_take, 3, (none : Option Jvm.ClassFile.FieldType), mt_X6_take)
def mt_X6_joinUpTo : mTab := [[(0, (.aload_n 0, 1, 0, 0, 0, 0, 0)), (1, (.getfield 44, 4, 6, 3, 0, 0, 0)), (4, (.istore_n 2, 5, 0, 0, 0, 0, 0)), (5, (.iload_n 2, 6, 0, 0, 0, 0, 0)), (6, (.ifCond .le 36, 9, 42, 0, 0, 0, 0)), (9, (.aload_n 0, 10, 0, 0, 0, 0, 0)), (10, (.getfield 11, 13, 6, 1, 2, 0, 0)), (13, (.iload_n 2, 14, 0, 0, 0, 0, 0)), (14, (.iconst 1, 15, 0, 0, 0, 1, 0)), (15, (.isub, 16, 0, 0, 0, 0, 0))],
  [(16, (.iaload, 17, 0, 0, 0, 0, 0)), (17, (.istore_n 3, 18, 0, 0, 0, 0, 0)), (18, (.iload_n 3, 19, 0, 0, 0, 0, 0)), (19, (.iload_n 1, 20, 0, 0, 0, 0, 0)), (20, (.if_icmp .le 4, 23, 24, 0, 0, 0, 0)), (23, (.return_, 24, 0, 0, 0, 0, 0)), (24, (.aload_n 0, 25, 0, 0, 0, 0, 0)), (25, (.iload_n 2, 26, 0, 0, 0, 0, 0)), (26, (.iconst 1, 27, 0, 0, 0, 1, 0)), (27, (.isub, 28, 0, 0, 0, 0, 0)), (28, (.putfield 44, 31, 6, 3, 0, 0, 0)), (31, (.aload_n 0, 32, 0, 0, 0, 0, 0))],
  [(32, (.iload_n 3, 33, 0, 0, 0, 0, 0)), (33, (.invokevirtual 79, 36, 64, 2, 6, 0, 0)), (36, (.iinc 2 (-1), 39, 0, 0, 0, (-1), 0)), (39, (.goto (-34), 42, 5, 0, 0, 0, 0)), (42, (.return_, 43, 0, 0, 0, 0, 0))]]
def md_X6_joinUpTo : mMd := (yX6_joinUpTo, 6, cX6_joinUpTo, 4, (none : Option Jvm.ClassFile.FieldType), mt_X6_joinUpTo)
def mt_X6_join : mTab := [[(0, (.iload_n 1, 1, 0, 0, 0, 0, 0)), (1, (.iconst 1, 2, 0, 0, 0, 1, 0)), (2, (.if_icmp .ne 7, 5, 9, 0, 0, 0, 0)), (5, (.iconst 1, 6, 0, 0, 0, 1, 0)), (6, (.goto 4, 9, 10, 0, 0, 0, 0)), (9, (.iconst 2, 10, 0, 0, 0, 2, 0)), (10, (.istore_n 2, 11, 0, 0, 0, 0, 0)), (11, (.aload_n 0, 12, 0, 0, 0, 0, 0)), (12, (.getfield 47, 15, 6, 4, 0, 0, 0)), (15, (.iload_n 2, 16, 0, 0, 0, 0, 0))],
  [(16, (.if_icmp .ge 4, 19, 20, 0, 0, 0, 0)), (19, (.return_, 20, 0, 0, 0, 0, 0)), (20, (.aload_n 0, 21, 0, 0, 0, 0, 0)), (21, (.dup, 22, 0, 0, 0, 0, 0)), (22, (.getfield 47, 25, 6, 4, 0, 0, 0)), (25, (.iload_n 2, 26, 0, 0, 0, 0, 0)), (26, (.isub, 27, 0, 0, 0, 0, 0)), (27, (.putfield 47, 30, 6, 4, 0, 0, 0)), (30, (.iload_n 2, 31, 0, 0, 0, 0, 0)), (31, (.iconst 1, 32, 0, 0, 0, 1, 0))],
  [(32, (.if_icmp .ne 7, 35, 39, 0, 0, 0, 0)), (35, (.iconst (-1), 36, 0, 0, 0, (-1), 0)), (36, (.goto 14, 39, 50, 0, 0, 0, 0)), (39, (.aload_n 0, 40, 0, 0, 0, 0, 0)), (40, (.getfield 17, 43, 6, 2, 2, 0, 0)), (43, (.aload_n 0, 44, 0, 0, 0, 0, 0)), (44, (.getfield 47, 47, 6, 4, 0, 0, 0)), (47, (.iconst 1, 48, 0, 0, 0, 1, 0))],
  [(48, (.iadd, 49, 0, 0, 0, 0, 0)), (49, (.iaload, 50, 0, 0, 0, 0, 0)), (50, (.istore_n 3, 51, 0, 0, 0, 0, 0)), (51, (.aload_n 0, 52, 0, 0, 0, 0, 0)), (52, (.getfield 20, 55, 6, 0, 2, 0, 0)), (55, (.iload_n 1, 56, 0, 0, 0, 0, 0)), (56, (.aload_n 0, 57, 0, 0, 0, 0, 0)), (57, (.getfield 17, 60, 6, 2, 2, 0, 0)), (60, (.aload_n 0, 61, 0, 0, 0, 0, 0)), (61, (.getfield 47, 64, 6, 4, 0, 0, 0))],
  [(64, (.iaload, 65, 0, 0, 0, 0, 0)), (65, (.iload_n 3, 66, 0, 0, 0, 0, 0)), (66, (.invokevirtual 82, 69, 26, 4, 2, 0, 0)), (69, (.istore 4, 71, 0, 0, 0, 0, 0)), (71, (.iload 4, 73, 0, 0, 0, 0, 0)), (73, (.ifCond .ge 8, 76, 81, 0, 0, 0, 0)), (76, (.aload_n 0, 77, 0, 0, 0, 0, 0)), (77, (.iconst 1, 78, 0, 0, 0, 1, 0)), (78, (.putfield 50, 81, 6, 5, 3, 0, 0))],
  [(81, (.aload_n 0, 82, 0, 0, 0, 0, 0)), (82, (.iload 4, 84, 0, 0, 0, 0, 0)), (84, (.invokevirtual 64, 87, 66, 2, 6, 0, 0)), (87, (.return_, 88, 0, 0, 0, 0, 0))]]
def md_X6_join : mMd := (yX6_join, 6, cX6_join, 5, (none : Option Jvm.ClassFile.FieldType), mt_X6_join)
def mt_X6_pushOperator : mTab := [[(0, (.aload_n 0, 1, 0, 0, 0, 0, 0)), (1, (.getfield 44, 4, 6, 3, 0, 0, 0)), (4, (.aload_n 0, 5, 0, 0, 0, 0, 0)), (5, (.getfield 11, 8, 6, 1, 2, 0, 0)), (8, (.arraylength, 9, 0, 0, 0, 0, 0)), (9, (.if_icmp .ge 23, 12, 32, 0, 0, 0, 0)), (12, (.aload_n 0, 13, 0, 0, 0, 0, 0)), (13, (.getfield 11, 16, 6, 1, 2, 0, 0))],
  [(16, (.aload_n 0, 17, 0, 0, 0, 0, 0)), (17, (.getfield 44, 20, 6, 3, 0, 0, 0)), (20, (.iload_n 1, 21, 0, 0, 0, 0, 0)), (21, (.iastore, 22, 0, 0, 0, 0, 0)), (22, (.aload_n 0, 23, 0, 0, 0, 0, 0)), (23, (.dup, 24, 0, 0, 0, 0, 0)), (24, (.getfield 44, 27, 6, 3, 0, 0, 0)), (27, (.iconst 1, 28, 0, 0, 0, 1, 0)), (28, (.iadd, 29, 0, 0, 0, 0, 0)), (29, (.putfield 44, 32, 6, 3, 0, 0, 0))],
  [(32, (.return_, 33, 0, 0, 0, 0, 0))]]
def md_X6_pushOperator : mMd := (yX6_pushOperator, 6, cX6_pushOperator, 2, (none : Option Jvm.ClassFile.FieldType), mt_X6_pushOperator)
def mt_X6_pushOperand : mTab := [[(0, (.aload_n 0, 1, 0, 0, 0, 0, 0)), (1, (.getfield 47, 4, 6, 4, 0, 0, 0)), (4, (.aload_n 0, 5, 0, 0, 0, 0, 0)), (5, (.getfield 17, 8, 6, 2, 2, 0, 0)), (8, (.arraylength, 9, 0, 0, 0, 0, 0)), (9, (.if_icmp .ge 23, 12, 32, 0, 0, 0, 0)), (12, (.aload_n 0, 13, 0, 0, 0, 0, 0)), (13, (.getfield 17, 16, 6, 2, 2, 0, 0))],
  [(16, (.aload_n 0, 17, 0, 0, 0, 0, 0)), (17, (.getfield 47, 20, 6, 4, 0, 0, 0)), (20, (.iload_n 1, 21, 0, 0, 0, 0, 0)), (21, (.iastore, 22, 0, 0, 0, 0, 0)), (22, (.aload_n 0, 23, 0, 0, 0, 0, 0)), (23, (.dup, 24, 0, 0, 0, 0, 0)), (24, (.getfield 47, 27, 6, 4, 0, 0, 0)), (27, (.iconst 1, 28, 0, 0, 0, 1, 0)), (28, (.iadd, 29, 0, 0, 0, 0, 0)), (29, (.putfield 47, 32, 6, 4, 0, 0, 0))],
  [(32, (.return_, 33, 0, 0, 0, 0, 0))]]
def md_X6_pushOperand : mMd := (yX6_pushOperand, 6, cX6_pushOperand, 2, (none : Option Jvm.ClassFile.FieldType), mt_X6_pushOperand)
def mt_X6_isAtomSign : mTab := [[(0, (.iload_n 0, 1, 0, 0, 0, 0, 0)), (1, (.bipush 112, 3, 0, 0, 0, 112, 0)), (3, (.if_icmp .lt 13, 6, 16, 0, 0, 0, 0)), (6, (.iload_n 0, 7, 0, 0, 0, 0, 0)), (7, (.bipush 115, 9, 0, 0, 0, 115, 0)), (9, (.if_icmp .gt 7, 12, 16, 0, 0, 0, 0)), (12, (.iconst 1, 13, 0, 0, 0, 1, 0)), (13, (.goto 4, 16, 17, 0, 0, 0, 0))],
  [(16, (.iconst 0, 17, 0, 0, 0, 0, 0)), (17, (.ireturn, 18, 0, 0, 0, 0, 0))]]
def md_X6_isAtomSign : mMd := (yX6_isAtomSign, 6, cX6_isAtomSign, 1, (some .boolean), mt_X6_isAtomSign)
def mt_X6_kindOfOperator : mTab := [[(0, (.iload_n 0, 1, 0, 0, 0, 0, 0)), (1, (.lookupswitch 51 #[(38, 45), (62, 49), (124, 47), (126, 43)], 44, 0, 0, 0, 0, 0))],
  [],
  [(44, (.iconst 1, 45, 0, 0, 0, 1, 0)), (45, (.ireturn, 46, 0, 0, 0, 0, 0)), (46, (.iconst 2, 47, 0, 0, 0, 2, 0)), (47, (.ireturn, 48, 0, 0, 0, 0, 0))],
  [(48, (.iconst 3, 49, 0, 0, 0, 3, 0)), (49, (.ireturn, 50, 0, 0, 0, 0, 0)), (50, (.iconst 4, 51, 0, 0, 0, 4, 0)), (51, (.ireturn, 52, 0, 0, 0, 0, 0)), (52, (.iconst 0, 53, 0, 0, 0, 0, 0)), (53, (.ireturn, 54, 0, 0, 0, 0, 0))]]
def md_X6_kindOfOperator : mMd := (yX6_kindOfOperator, 6, cX6_kindOfOperator, 1, (some .int), mt_X6_kindOfOperator)
def mt_X7_init : mTab := [[(0, (.aload_n 0, 1, 0, 0, 0, 0, 0)), (1, (.invokespecial 3, 4, 1010, 1, 0, 0, 0)), (4, (.aload_n 0, 5, 0, 0, 0, 0, 0)), (5, (.bipush 40, 7, 0, 0, 0, 40, 0)), (7, (.newarray .int, 9, 100, 0, 0, 0, 0)), (9, (.putfield 11, 12, 7, 1, 12, 0, 0)), (12, (.aload_n 0, 13, 0, 0, 0, 0, 0)), (13, (.aload_n 1, 14, 0, 0, 0, 0, 0)), (14, (.putfield 17, 17, 7, 0, 12, 0, 0))],
  [(17, (.return_, 18, 0, 0, 0, 0, 0))]]
def md_X7_init : mMd := (yX7_init, 7, cX7_init, 2, (none : Option Jvm.ClassFile.FieldType), mt_X7_init)
def mt_X7_wordIn : mTab := [[(0, (.aload_n 1, 1, 0, 0, 0, 0, 0)), (1, (.ldc 21, 3, 1, 0, 0, 0, 0)), (3, (.invokevirtual 23, 6, 32, 2, 3, 0, 0)), (6, (.ifCond .eq 5, 9, 11, 0, 0, 0, 0)), (9, (.iconst 1, 10, 0, 0, 0, 1, 0)), (10, (.ireturn, 11, 0, 0, 0, 0, 0)), (11, (.aload_n 1, 12, 0, 0, 0, 0, 0)), (12, (.ldc 29, 14, 1, 1, 0, 0, 0)), (14, (.invokevirtual 23, 17, 32, 2, 3, 0, 0))],
  [(17, (.ifCond .eq 5, 20, 22, 0, 0, 0, 0)), (20, (.iconst 2, 21, 0, 0, 0, 2, 0)), (21, (.ireturn, 22, 0, 0, 0, 0, 0)), (22, (.aload_n 1, 23, 0, 0, 0, 0, 0)), (23, (.ldc 31, 25, 1, 2, 0, 0, 0)), (25, (.invokevirtual 23, 28, 32, 2, 3, 0, 0)), (28, (.ifCond .eq 5, 31, 33, 0, 0, 0, 0)), (31, (.iconst 3, 32, 0, 0, 0, 3, 0))],
  [(32, (.ireturn, 33, 0, 0, 0, 0, 0)), (33, (.aload_n 1, 34, 0, 0, 0, 0, 0)), (34, (.ldc 33, 36, 1, 3, 0, 0, 0)), (36, (.invokevirtual 23, 39, 32, 2, 3, 0, 0)), (39, (.ifCond .eq 5, 42, 44, 0, 0, 0, 0)), (42, (.iconst 4, 43, 0, 0, 0, 4, 0)), (43, (.ireturn, 44, 0, 0, 0, 0, 0)), (44, (.aload_n 1, 45, 0, 0, 0, 0, 0)), (45, (.ldc 35, 47, 1, 4, 0, 0, 0)), (47, (.invokevirtual 23, 50, 32, 2, 3, 0, 0))],
  [(50, (.ifCond .eq 7, 53, 57, 0, 0, 0, 0)), (53, (.iconst 5, 54, 0, 0, 0, 5, 0)), (54, (.goto 4, 57, 58, 0, 0, 0, 0)), (57, (.iconst 0, 58, 0, 0, 0, 0, 0)), (58, (.ireturn, 59, 0, 0, 0, 0, 0))]]
def md_X7_wordIn : mMd := (yX7_wordIn, 7, cX7_wordIn, 2, (some .int), mt_X7_wordIn)
def mt_X7_applies : mTab := [[(0, (.aload_n 0, 1, 0, 0, 0, 0, 0)), (1, (.getfield 17, 4, 7, 0, 2, 0, 0)), (4, (.iload_n 2, 5, 0, 0, 0, 0, 0)), (5, (.invokevirtual 37, 8, 20, 2, 2, 0, 0)), (8, (.istore_n 3, 9, 0, 0, 0, 0, 0)), (9, (.iload_n 1, 10, 0, 0, 0, 0, 0)), (10, (.iconst 3, 11, 0, 0, 0, 3, 0)), (11, (.if_icmp .ne 19, 14, 30, 0, 0, 0, 0)), (14, (.iload_n 3, 15, 0, 0, 0, 0, 0)), (15, (.iconst 2, 16, 0, 0, 0, 2, 0))],
  [(16, (.if_icmp .eq 8, 19, 24, 0, 0, 0, 0)), (19, (.iload_n 3, 20, 0, 0, 0, 0, 0)), (20, (.iconst 3, 21, 0, 0, 0, 3, 0)), (21, (.if_icmp .ne 7, 24, 28, 0, 0, 0, 0)), (24, (.iconst 1, 25, 0, 0, 0, 1, 0)), (25, (.goto 4, 28, 29, 0, 0, 0, 0)), (28, (.iconst 0, 29, 0, 0, 0, 0, 0)), (29, (.ireturn, 30, 0, 0, 0, 0, 0)), (30, (.iload_n 1, 31, 0, 0, 0, 0, 0)), (31, (.iconst 4, 32, 0, 0, 0, 4, 0))],
  [(32, (.if_icmp .ne 14, 35, 46, 0, 0, 0, 0)), (35, (.iload_n 3, 36, 0, 0, 0, 0, 0)), (36, (.iconst 4, 37, 0, 0, 0, 4, 0)), (37, (.if_icmp .ne 7, 40, 44, 0, 0, 0, 0)), (40, (.iconst 1, 41, 0, 0, 0, 1, 0)), (41, (.goto 4, 44, 45, 0, 0, 0, 0)), (44, (.iconst 0, 45, 0, 0, 0, 0, 0)), (45, (.ireturn, 46, 0, 0, 0, 0, 0)), (46, (.iload_n 1, 47, 0, 0, 0, 0, 0)), (47, (.ifCond .eq 7, 50, 54, 0, 0, 0, 0))],
  [(50, (.iconst 1, 51, 0, 0, 0, 1, 0)), (51, (.goto 4, 54, 55, 0, 0, 0, 0)), (54, (.iconst 0, 55, 0, 0, 0, 0, 0)), (55, (.ireturn, 56, 0, 0, 0, 0, 0))]]
def md_X7_applies : mMd := (yX7_applies, 7, cX7_applies, 4, (some .boolean), mt_X7_applies)
def mt_X7_makeBy : mTab := [[(0, (.aload_n 0, 1, 0, 0, 0, 0, 0)), (1, (.getfield 17, 4, 7, 0, 2, 0, 0)), (4, (.iload_n 2, 5, 0, 0, 0, 0, 0)), (5, (.invokevirtual 41, 8, 21, 2, 2, 0, 0)), (8, (.istore_n 3, 9, 0, 0, 0, 0, 0)), (9, (.aload_n 0, 10, 0, 0, 0, 0, 0)), (10, (.getfield 17, 13, 7, 0, 2, 0, 0)), (13, (.iload_n 2, 14, 0, 0, 0, 0, 0)), (14, (.invokevirtual 44, 17, 22, 2, 2, 0, 0))],
  [(17, (.istore 4, 19, 0, 0, 0, 0, 0)), (19, (.iload_n 1, 20, 0, 0, 0, 0, 0)), (20, (.tableswitch 110 1 4 #[32, 41, 57, 76], 52, 0, 0, 0, 0, 0))],
  [],
  [(52, (.aload_n 0, 53, 0, 0, 0, 0, 0)), (53, (.getfield 17, 56, 7, 0, 2, 0, 0)), (56, (.iload_n 2, 57, 0, 0, 0, 0, 0)), (57, (.invokevirtual 47, 60, 25, 2, 2, 0, 0)), (60, (.ireturn, 61, 0, 0, 0, 0, 0)), (61, (.aload_n 0, 62, 0, 0, 0, 0, 0)), (62, (.getfield 17, 65, 7, 0, 2, 0, 0))],
  [(65, (.aload_n 0, 66, 0, 0, 0, 0, 0)), (66, (.getfield 17, 69, 7, 0, 2, 0, 0)), (69, (.iload_n 2, 70, 0, 0, 0, 0, 0)), (70, (.invokevirtual 47, 73, 25, 2, 2, 0, 0)), (73, (.invokevirtual 47, 76, 25, 2, 2, 0, 0)), (76, (.ireturn, 77, 0, 0, 0, 0, 0)), (77, (.aload_n 0, 78, 0, 0, 0, 0, 0)), (78, (.getfield 17, 81, 7, 0, 2, 0, 0))],
  [(81, (.aload_n 0, 82, 0, 0, 0, 0, 0)), (82, (.getfield 17, 85, 7, 0, 2, 0, 0)), (85, (.iload_n 2, 86, 0, 0, 0, 0, 0)), (86, (.invokevirtual 37, 89, 20, 2, 2, 0, 0)), (89, (.iload 4, 91, 0, 0, 0, 0, 0)), (91, (.iload_n 3, 92, 0, 0, 0, 0, 0)), (92, (.invokevirtual 50, 95, 26, 4, 2, 0, 0)), (95, (.ireturn, 96, 0, 0, 0, 0, 0))],
  [(96, (.aload_n 0, 97, 0, 0, 0, 0, 0)), (97, (.getfield 17, 100, 7, 0, 2, 0, 0)), (100, (.iload 4, 102, 0, 0, 0, 0, 0)), (102, (.invokevirtual 47, 105, 25, 2, 2, 0, 0)), (105, (.istore 5, 107, 0, 0, 0, 0, 0)), (107, (.aload_n 0, 108, 0, 0, 0, 0, 0)), (108, (.getfield 17, 111, 7, 0, 2, 0, 0)), (111, (.iload_n 3, 112, 0, 0, 0, 0, 0))],
  [(112, (.invokevirtual 47, 115, 25, 2, 2, 0, 0)), (115, (.istore 6, 117, 0, 0, 0, 0, 0)), (117, (.aload_n 0, 118, 0, 0, 0, 0, 0)), (118, (.getfield 17, 121, 7, 0, 2, 0, 0)), (121, (.iconst 4, 122, 0, 0, 0, 4, 0)), (122, (.iload 5, 124, 0, 0, 0, 0, 0)), (124, (.iload 6, 126, 0, 0, 0, 0, 0)), (126, (.invokevirtual 50, 129, 26, 4, 2, 0, 0))],
  [(129, (.ireturn, 130, 0, 0, 0, 0, 0)), (130, (.aload_n 0, 131, 0, 0, 0, 0, 0)), (131, (.getfield 11, 134, 7, 1, 2, 0, 0)), (134, (.iconst (-1), 135, 0, 0, 0, (-1), 0)), (135, (.invokestatic 54, 138, 196, 2, 0, 0, 0)), (138, (.aload_n 0, 139, 0, 0, 0, 0, 0)), (139, (.iload_n 2, 140, 0, 0, 0, 0, 0)), (140, (.iconst 0, 141, 0, 0, 0, 0, 0)), (141, (.invokevirtual 60, 144, 73, 3, 7, 0, 0))],
  [(144, (.ireturn, 145, 0, 0, 0, 0, 0))]]
def md_X7_makeBy : mMd := (yX7_makeBy, 7, cX7_makeBy, 7, (some .int), mt_X7_makeBy)
def mt_X7_translate : mTab := [[(0, (.aload_n 0, 1, 0, 0, 0, 0, 0)), (1, (.getfield 17, 4, 7, 0, 2, 0, 0)), (4, (.iload_n 1, 5, 0, 0, 0, 0, 0)), (5, (.invokevirtual 63, 8, 19, 2, 2, 0, 0)), (8, (.ifCond .eq 9, 11, 17, 0, 0, 0, 0)), (11, (.iload_n 2, 12, 0, 0, 0, 0, 0)), (12, (.bipush 40, 14, 0, 0, 0, 40, 0)), (14, (.if_icmp .le 6, 17, 20, 0, 0, 0, 0))],
  [(17, (.bipush (-3), 19, 0, 0, 0, (-3), 0)), (19, (.ireturn, 20, 0, 0, 0, 0, 0)), (20, (.aload_n 0, 21, 0, 0, 0, 0, 0)), (21, (.getfield 11, 24, 7, 1, 2, 0, 0)), (24, (.iload_n 1, 25, 0, 0, 0, 0, 0)), (25, (.iaload, 26, 0, 0, 0, 0, 0)), (26, (.ifCond .ge 15, 29, 41, 0, 0, 0, 0)), (29, (.aload_n 0, 30, 0, 0, 0, 0, 0)), (30, (.getfield 11, 33, 7, 1, 2, 0, 0))],
  [(33, (.iload_n 1, 34, 0, 0, 0, 0, 0)), (34, (.aload_n 0, 35, 0, 0, 0, 0, 0)), (35, (.iload_n 1, 36, 0, 0, 0, 0, 0)), (36, (.iload_n 2, 37, 0, 0, 0, 0, 0)), (37, (.invokevirtual 67, 40, 74, 3, 7, 0, 0)), (40, (.iastore, 41, 0, 0, 0, 0, 0)), (41, (.aload_n 0, 42, 0, 0, 0, 0, 0)), (42, (.getfield 11, 45, 7, 1, 2, 0, 0)), (45, (.iload_n 1, 46, 0, 0, 0, 0, 0)), (46, (.iaload, 47, 0, 0, 0, 0, 0)), (47, (.ireturn, 48, 0, 0, 0, 0, 0))]]
def md_X7_translate : mMd := (yX7_translate, 7, cX7_translate, 3, (some .int), mt_X7_translate)
def mt_X7_imageOf : mTab := [[(0, (.aload_n 0, 1, 0, 0, 0, 0, 0)), (1, (.getfield 17, 4, 7, 0, 2, 0, 0)), (4, (.iload_n 1, 5, 0, 0, 0, 0, 0)), (5, (.invokevirtual 37, 8, 20, 2, 2, 0, 0)), (8, (.istore_n 3, 9, 0, 0, 0, 0, 0)), (9, (.iload_n 3, 10, 0, 0, 0, 0, 0)), (10, (.ifCond .ne 19, 13, 29, 0, 0, 0, 0)), (13, (.aload_n 0, 14, 0, 0, 0, 0, 0)), (14, (.getfield 17, 17, 7, 0, 2, 0, 0))],
  [(17, (.aload_n 0, 18, 0, 0, 0, 0, 0)), (18, (.getfield 17, 21, 7, 0, 2, 0, 0)), (21, (.iload_n 1, 22, 0, 0, 0, 0, 0)), (22, (.invokevirtual 47, 25, 25, 2, 2, 0, 0)), (25, (.invokevirtual 47, 28, 25, 2, 2, 0, 0)), (28, (.ireturn, 29, 0, 0, 0, 0, 0)), (29, (.aload_n 0, 30, 0, 0, 0, 0, 0)), (30, (.aload_n 0, 31, 0, 0, 0, 0, 0)), (31, (.getfield 17, 34, 7, 0, 2, 0, 0))],
  [(34, (.iload_n 1, 35, 0, 0, 0, 0, 0)), (35, (.invokevirtual 41, 38, 21, 2, 2, 0, 0)), (38, (.iload_n 2, 39, 0, 0, 0, 0, 0)), (39, (.iconst 1, 40, 0, 0, 0, 1, 0)), (40, (.iadd, 41, 0, 0, 0, 0, 0)), (41, (.invokevirtual 60, 44, 73, 3, 7, 0, 0)), (44, (.istore 4, 46, 0, 0, 0, 0, 0)), (46, (.iload_n 3, 47, 0, 0, 0, 0, 0)), (47, (.iconst 1, 48, 0, 0, 0, 1, 0))],
  [(48, (.if_icmp .ne 13, 51, 61, 0, 0, 0, 0)), (51, (.aload_n 0, 52, 0, 0, 0, 0, 0)), (52, (.getfield 17, 55, 7, 0, 2, 0, 0)), (55, (.iload 4, 57, 0, 0, 0, 0, 0)), (57, (.invokevirtual 47, 60, 25, 2, 2, 0, 0)), (60, (.ireturn, 61, 0, 0, 0, 0, 0)), (61, (.iload_n 3, 62, 0, 0, 0, 0, 0)), (62, (.iconst 3, 63, 0, 0, 0, 3, 0)), (63, (.if_icmp .ne 7, 66, 70, 0, 0, 0, 0))],
  [(66, (.iconst 1, 67, 0, 0, 0, 1, 0)), (67, (.goto 4, 70, 71, 0, 0, 0, 0)), (70, (.iconst 0, 71, 0, 0, 0, 0, 0)), (71, (.istore 5, 73, 0, 0, 0, 0, 0)), (73, (.iload 5, 75, 0, 0, 0, 0, 0)), (75, (.ifCond .eq 14, 78, 89, 0, 0, 0, 0)), (78, (.aload_n 0, 79, 0, 0, 0, 0, 0)), (79, (.getfield 17, 82, 7, 0, 2, 0, 0))],
  [(82, (.iload 4, 84, 0, 0, 0, 0, 0)), (84, (.invokevirtual 47, 87, 25, 2, 2, 0, 0)), (87, (.istore 4, 89, 0, 0, 0, 0, 0)), (89, (.iload 4, 91, 0, 0, 0, 0, 0)), (91, (.ifCond .ge 6, 94, 97, 0, 0, 0, 0)), (94, (.bipush (-3), 96, 0, 0, 0, (-3), 0))],
  [(96, (.ireturn, 97, 0, 0, 0, 0, 0)), (97, (.aload_n 0, 98, 0, 0, 0, 0, 0)), (98, (.aload_n 0, 99, 0, 0, 0, 0, 0)), (99, (.getfield 17, 102, 7, 0, 2, 0, 0)), (102, (.iload_n 1, 103, 0, 0, 0, 0, 0)), (103, (.invokevirtual 44, 106, 22, 2, 2, 0, 0)), (106, (.iload_n 2, 107, 0, 0, 0, 0, 0)), (107, (.iconst 1, 108, 0, 0, 0, 1, 0)), (108, (.iadd, 109, 0, 0, 0, 0, 0)), (109, (.invokevirtual 60, 112, 73, 3, 7, 0, 0))],
  [(112, (.istore 6, 114, 0, 0, 0, 0, 0)), (114, (.iload 5, 116, 0, 0, 0, 0, 0)), (116, (.ifCond .ne 16, 119, 132, 0, 0, 0, 0)), (119, (.aload_n 0, 120, 0, 0, 0, 0, 0)), (120, (.getfield 17, 123, 7, 0, 2, 0, 0)), (123, (.iload_n 3, 124, 0, 0, 0, 0, 0)), (124, (.iload 4, 126, 0, 0, 0, 0, 0)), (126, (.iload 6, 128, 0, 0, 0, 0, 0))],
  [(128, (.invokevirtual 50, 131, 26, 4, 2, 0, 0)), (131, (.ireturn, 132, 0, 0, 0, 0, 0)), (132, (.aload_n 0, 133, 0, 0, 0, 0, 0)), (133, (.getfield 17, 136, 7, 0, 2, 0, 0)), (136, (.iload 6, 138, 0, 0, 0, 0, 0)), (138, (.invokevirtual 47, 141, 25, 2, 2, 0, 0)), (141, (.istore 6, 143, 0, 0, 0, 0, 0)), (143, (.aload_n 0, 144, 0, 0, 0, 0, 0))],
  [(144, (.getfield 17, 147, 7, 0, 2, 0, 0)), (147, (.aload_n 0, 148, 0, 0, 0, 0, 0)), (148, (.getfield 17, 151, 7, 0, 2, 0, 0)), (151, (.iconst 2, 152, 0, 0, 0, 2, 0)), (152, (.iload 4, 154, 0, 0, 0, 0, 0)), (154, (.iload 6, 156, 0, 0, 0, 0, 0)), (156, (.invokevirtual 50, 159, 26, 4, 2, 0, 0)), (159, (.invokevirtual 47, 162, 25, 2, 2, 0, 0))],
  [(162, (.ireturn, 163, 0, 0, 0, 0, 0))]]
def md_X7_imageOf : mMd := (yX7_imageOf, 7, cX7_imageOf, 7, (some .int), mt_X7_imageOf)
def mt_X8_init : mTab := [[(0, (.aload_n 0, 1, 0, 0, 0, 0, 0)), (1, (.invokespecial 3, 4, 1010, 1, 0, 0, 0)), (4, (.aload_n 0, 5, 0, 0, 0, 0, 0)), (5, (.new 9, 8, 2, 7, 0, 0, 0)), (8, (.dup, 9, 0, 0, 0, 0, 0)), (9, (.invokespecial 11, 12, 17, 1, 0, 0, 0)), (12, (.putfield 12, 15, 8, 0, 12, 0, 0)), (15, (.aload_n 0, 16, 0, 0, 0, 0, 0))],
  [(16, (.new 18, 19, 3, 2, 0, 0, 0)), (19, (.dup, 20, 0, 0, 0, 0, 0)), (20, (.invokespecial 20, 23, 29, 1, 1, 0, 0)), (23, (.putfield 21, 26, 8, 1, 12, 0, 0)), (26, (.aload_n 0, 27, 0, 0, 0, 0, 0)), (27, (.new 25, 30, 6, 6, 0, 0, 0)), (30, (.dup, 31, 0, 0, 0, 0, 0)), (31, (.aload_n 0, 32, 0, 0, 0, 0, 0))],
  [(32, (.getfield 12, 35, 8, 0, 2, 0, 0)), (35, (.invokespecial 27, 38, 59, 2, 0, 0, 0)), (38, (.putfield 30, 41, 8, 2, 12, 0, 0)), (41, (.aload_n 0, 42, 0, 0, 0, 0, 0)), (42, (.new 34, 45, 7, 2, 0, 0, 0)), (45, (.dup, 46, 0, 0, 0, 0, 0)), (46, (.aload_n 0, 47, 0, 0, 0, 0, 0)), (47, (.getfield 12, 50, 8, 0, 2, 0, 0))],
  [(50, (.invokespecial 36, 53, 69, 2, 0, 0, 0)), (53, (.putfield 37, 56, 8, 3, 12, 0, 0)), (56, (.aload_n 0, 57, 0, 0, 0, 0, 0)), (57, (.new 41, 60, 1, 6, 0, 0, 0)), (60, (.dup, 61, 0, 0, 0, 0, 0)), (61, (.aload_n 0, 62, 0, 0, 0, 0, 0)), (62, (.getfield 12, 65, 8, 0, 2, 0, 0))],
  [(65, (.invokespecial 43, 68, 11, 2, 0, 0, 0)), (68, (.putfield 44, 71, 8, 4, 12, 0, 0)), (71, (.aload_n 0, 72, 0, 0, 0, 0, 0)), (72, (.new 48, 75, 4, 12, 0, 0, 0)), (75, (.dup, 76, 0, 0, 0, 0, 0)), (76, (.aload_n 0, 77, 0, 0, 0, 0, 0)), (77, (.getfield 12, 80, 8, 0, 2, 0, 0))],
  [(80, (.invokespecial 50, 83, 33, 2, 0, 0, 0)), (83, (.putfield 51, 86, 8, 5, 12, 0, 0)), (86, (.aload_n 0, 87, 0, 0, 0, 0, 0)), (87, (.iconst 4, 88, 0, 0, 0, 4, 0)), (88, (.anewarray 55, 91, 103, 0, 0, 0, 0)), (91, (.putfield 57, 94, 8, 6, 12, 0, 0)), (94, (.iconst 0, 95, 0, 0, 0, 0, 0)), (95, (.istore_n 1, 96, 0, 0, 0, 0, 0))],
  [(96, (.iload_n 1, 97, 0, 0, 0, 0, 0)), (97, (.iconst 4, 98, 0, 0, 0, 4, 0)), (98, (.if_icmp .ge 22, 101, 120, 0, 0, 0, 0)), (101, (.aload_n 0, 102, 0, 0, 0, 0, 0)), (102, (.getfield 57, 105, 8, 6, 2, 0, 0)), (105, (.iload_n 1, 106, 0, 0, 0, 0, 0)), (106, (.new 55, 109, 5, 5, 0, 0, 0)), (109, (.dup, 110, 0, 0, 0, 0, 0)), (110, (.invokespecial 61, 113, 47, 1, 1, 0, 0))],
  [(113, (.aastore, 114, 0, 0, 0, 0, 0)), (114, (.iinc 1 1, 117, 0, 0, 0, 1, 0)), (117, (.goto (-21), 120, 96, 0, 0, 0, 0)), (120, (.return_, 121, 0, 0, 0, 0, 0))]]
def md_X8_init : mMd := (yX8_init, 8, cX8_init, 2, (none : Option Jvm.ClassFile.FieldType), mt_X8_init)
def mt_X8_reset : mTab := [[(0, (.aload_n 0, 1, 0, 0, 0, 0, 0)), (1, (.getfield 12, 4, 8, 0, 2, 0, 0)), (4, (.getfield 62, 7, 2, 6, 0, 0, 0)), (7, (.istore_n 1, 8, 0, 0, 0, 0, 0)), (8, (.aload_n 0, 9, 0, 0, 0, 0, 0)), (9, (.getfield 12, 12, 8, 0, 2, 0, 0)), (12, (.iconst 4, 13, 0, 0, 0, 4, 0)), (13, (.invokevirtual 66, 16, 24, 2, 2, 0, 0))],
  [(16, (.aload_n 0, 17, 0, 0, 0, 0, 0)), (17, (.getfield 44, 20, 8, 4, 2, 0, 0)), (20, (.invokevirtual 70, 23, 13, 1, 1, 0, 0)), (23, (.iload_n 1, 24, 0, 0, 0, 0, 0)), (24, (.ireturn, 25, 0, 0, 0, 0, 0))]]
def md_X8_reset : mMd := (yX8_reset, 8, cX8_reset, 2, (some .int), mt_X8_reset)
def mt_X8_formulaCount : mTab := [[(0, (.aload_n 0, 1, 0, 0, 0, 0, 0)), (1, (.getfield 12, 4, 8, 0, 2, 0, 0)), (4, (.getfield 62, 7, 2, 6, 0, 0, 0)), (7, (.ireturn, 8, 0, 0, 0, 0, 0))]]
def md_X8_formulaCount : mMd := (yX8_formulaCount, 8, cX8_formulaCount, 1, (some .int), mt_X8_formulaCount)
def mt_X8_append : mTab := [[(0, (.iload_n 1, 1, 0, 0, 0, 0, 0)), (1, (.ifCond .lt 20, 4, 21, 0, 0, 0, 0)), (4, (.iload_n 1, 5, 0, 0, 0, 0, 0)), (5, (.bipush 127, 7, 0, 0, 0, 127, 0)), (7, (.if_icmp .gt 14, 10, 21, 0, 0, 0, 0)), (10, (.iload_n 2, 11, 0, 0, 0, 0, 0)), (11, (.iconst 1, 12, 0, 0, 0, 1, 0)), (12, (.if_icmp .lt 9, 15, 21, 0, 0, 0, 0)), (15, (.iload_n 2, 16, 0, 0, 0, 0, 0))],
  [(16, (.bipush 40, 18, 0, 0, 0, 40, 0)), (18, (.if_icmp .le 5, 21, 23, 0, 0, 0, 0)), (21, (.iconst (-1), 22, 0, 0, 0, (-1), 0)), (22, (.ireturn, 23, 0, 0, 0, 0, 0)), (23, (.aload_n 0, 24, 0, 0, 0, 0, 0)), (24, (.getfield 21, 27, 8, 1, 2, 0, 0)), (27, (.iload_n 1, 28, 0, 0, 0, 0, 0)), (28, (.iload_n 2, 29, 0, 0, 0, 0, 0)), (29, (.invokevirtual 73, 32, 30, 3, 3, 0, 0))],
  [(32, (.ifCond .eq 13, 35, 45, 0, 0, 0, 0)), (35, (.aload_n 0, 36, 0, 0, 0, 0, 0)), (36, (.getfield 21, 39, 8, 1, 2, 0, 0)), (39, (.getfield 77, 42, 3, 1, 0, 0, 0)), (42, (.goto 5, 45, 47, 0, 0, 0, 0)), (45, (.bipush (-3), 47, 0, 0, 0, (-3), 0)), (47, (.ireturn, 48, 0, 0, 0, 0, 0))]]
def md_X8_append : mMd := (yX8_append, 8, cX8_append, 3, (some .int), mt_X8_append)
def mt_X8_clearInput : mTab := [[(0, (.aload_n 0, 1, 0, 0, 0, 0, 0)), (1, (.getfield 21, 4, 8, 1, 2, 0, 0)), (4, (.getfield 77, 7, 3, 1, 0, 0, 0)), (7, (.istore_n 1, 8, 0, 0, 0, 0, 0)), (8, (.aload_n 0, 9, 0, 0, 0, 0, 0)), (9, (.getfield 21, 12, 8, 1, 2, 0, 0)), (12, (.iconst 0, 13, 0, 0, 0, 0, 0)), (13, (.putfield 77, 16, 3, 1, 0, 0, 0))],
  [(16, (.iload_n 1, 17, 0, 0, 0, 0, 0)), (17, (.ireturn, 18, 0, 0, 0, 0, 0))]]
def md_X8_clearInput : mMd := (yX8_clearInput, 8, cX8_clearInput, 2, (some .int), mt_X8_clearInput)
def mt_X8_parse : mTab := [[(0, (.aload_n 0, 1, 0, 0, 0, 0, 0)), (1, (.getfield 30, 4, 8, 2, 2, 0, 0)), (4, (.aload_n 0, 5, 0, 0, 0, 0, 0)), (5, (.getfield 21, 8, 8, 1, 2, 0, 0)), (8, (.invokevirtual 80, 11, 60, 2, 6, 0, 0)), (11, (.istore_n 1, 12, 0, 0, 0, 0, 0)), (12, (.iload_n 1, 13, 0, 0, 0, 0, 0)), (13, (.ifCond .lt 11, 16, 24, 0, 0, 0, 0))],
  [(16, (.sipush (-1000), 19, 0, 0, 0, (-1000), 0)), (19, (.iload_n 1, 20, 0, 0, 0, 0, 0)), (20, (.isub, 21, 0, 0, 0, 0, 0)), (21, (.goto 14, 24, 35, 0, 0, 0, 0)), (24, (.aload_n 0, 25, 0, 0, 0, 0, 0)), (25, (.getfield 30, 28, 8, 2, 2, 0, 0)), (28, (.aload_n 0, 29, 0, 0, 0, 0, 0)), (29, (.getfield 21, 32, 8, 1, 2, 0, 0))],
  [(32, (.invokevirtual 84, 35, 61, 2, 6, 0, 0)), (35, (.istore_n 2, 36, 0, 0, 0, 0, 0)), (36, (.aload_n 0, 37, 0, 0, 0, 0, 0)), (37, (.getfield 21, 40, 8, 1, 2, 0, 0)), (40, (.iconst 0, 41, 0, 0, 0, 0, 0)), (41, (.putfield 77, 44, 3, 1, 0, 0, 0)), (44, (.iload_n 2, 45, 0, 0, 0, 0, 0)), (45, (.ireturn, 46, 0, 0, 0, 0, 0))]]
def md_X8_parse : mMd := (yX8_parse, 8, cX8_parse, 3, (some .int), mt_X8_parse)
def mt_X8_negate : mTab := [[(0, (.aload_n 0, 1, 0, 0, 0, 0, 0)), (1, (.getfield 12, 4, 8, 0, 2, 0, 0)), (4, (.iload_n 1, 5, 0, 0, 0, 0, 0)), (5, (.invokevirtual 87, 8, 19, 2, 2, 0, 0)), (8, (.ifCond .ne 6, 11, 14, 0, 0, 0, 0)), (11, (.bipush (-2), 13, 0, 0, 0, (-2), 0)), (13, (.ireturn, 14, 0, 0, 0, 0, 0)), (14, (.aload_n 0, 15, 0, 0, 0, 0, 0)), (15, (.getfield 12, 18, 8, 0, 2, 0, 0))],
  [(18, (.iload_n 1, 19, 0, 0, 0, 0, 0)), (19, (.invokevirtual 91, 22, 25, 2, 2, 0, 0)), (22, (.ireturn, 23, 0, 0, 0, 0, 0))]]
def md_X8_negate : mMd := (yX8_negate, 8, cX8_negate, 2, (some .int), mt_X8_negate)
def mt_X8_combine : mTab := [[(0, (.iload_n 1, 1, 0, 0, 0, 0, 0)), (1, (.iconst 2, 2, 0, 0, 0, 2, 0)), (2, (.if_icmp .lt 8, 5, 10, 0, 0, 0, 0)), (5, (.iload_n 1, 6, 0, 0, 0, 0, 0)), (6, (.iconst 4, 7, 0, 0, 0, 4, 0)), (7, (.if_icmp .le 5, 10, 12, 0, 0, 0, 0)), (10, (.iconst (-1), 11, 0, 0, 0, (-1), 0)), (11, (.ireturn, 12, 0, 0, 0, 0, 0)), (12, (.aload_n 0, 13, 0, 0, 0, 0, 0)), (13, (.getfield 12, 16, 8, 0, 2, 0, 0))],
  [(16, (.iload_n 2, 17, 0, 0, 0, 0, 0)), (17, (.invokevirtual 87, 20, 19, 2, 2, 0, 0)), (20, (.ifCond .eq 14, 23, 34, 0, 0, 0, 0)), (23, (.aload_n 0, 24, 0, 0, 0, 0, 0)), (24, (.getfield 12, 27, 8, 0, 2, 0, 0)), (27, (.iload_n 3, 28, 0, 0, 0, 0, 0)), (28, (.invokevirtual 87, 31, 19, 2, 2, 0, 0)), (31, (.ifCond .ne 6, 34, 37, 0, 0, 0, 0))],
  [(34, (.bipush (-2), 36, 0, 0, 0, (-2), 0)), (36, (.ireturn, 37, 0, 0, 0, 0, 0)), (37, (.aload_n 0, 38, 0, 0, 0, 0, 0)), (38, (.getfield 12, 41, 8, 0, 2, 0, 0)), (41, (.iload_n 1, 42, 0, 0, 0, 0, 0)), (42, (.iload_n 2, 43, 0, 0, 0, 0, 0)), (43, (.iload_n 3, 44, 0, 0, 0, 0, 0)), (44, (.invokevirtual 95, 47, 26, 4, 2, 0, 0)), (47, (.ireturn, 48, 0, 0, 0, 0, 0))]]
def md_X8_combine : mMd := (yX8_combine, 8, cX8_combine, 4, (some .int), mt_X8_combine)
def mt_X8_kind : mTab := [[(0, (.aload_n 0, 1, 0, 0, 0, 0, 0)), (1, (.getfield 12, 4, 8, 0, 2, 0, 0)), (4, (.iload_n 1, 5, 0, 0, 0, 0, 0)), (5, (.invokevirtual 87, 8, 19, 2, 2, 0, 0)), (8, (.ifCond .eq 14, 11, 22, 0, 0, 0, 0)), (11, (.aload_n 0, 12, 0, 0, 0, 0, 0)), (12, (.getfield 12, 15, 8, 0, 2, 0, 0)), (15, (.iload_n 1, 16, 0, 0, 0, 0, 0))],
  [(16, (.invokevirtual 99, 19, 20, 2, 2, 0, 0)), (19, (.goto 5, 22, 24, 0, 0, 0, 0)), (22, (.bipush (-2), 24, 0, 0, 0, (-2), 0)), (24, (.ireturn, 25, 0, 0, 0, 0, 0))]]
def md_X8_kind : mMd := (yX8_kind, 8, cX8_kind, 2, (some .int), mt_X8_kind)
def mt_X8_part : mTab := [[(0, (.aload_n 0, 1, 0, 0, 0, 0, 0)), (1, (.getfield 12, 4, 8, 0, 2, 0, 0)), (4, (.iload_n 1, 5, 0, 0, 0, 0, 0)), (5, (.invokevirtual 87, 8, 19, 2, 2, 0, 0)), (8, (.ifCond .ne 6, 11, 14, 0, 0, 0, 0)), (11, (.bipush (-2), 13, 0, 0, 0, (-2), 0)), (13, (.ireturn, 14, 0, 0, 0, 0, 0)), (14, (.iload_n 2, 15, 0, 0, 0, 0, 0)), (15, (.ifCond .eq 10, 18, 25, 0, 0, 0, 0))],
  [(18, (.iload_n 2, 19, 0, 0, 0, 0, 0)), (19, (.iconst 1, 20, 0, 0, 0, 1, 0)), (20, (.if_icmp .eq 5, 23, 25, 0, 0, 0, 0)), (23, (.iconst (-1), 24, 0, 0, 0, (-1), 0)), (24, (.ireturn, 25, 0, 0, 0, 0, 0)), (25, (.iload_n 2, 26, 0, 0, 0, 0, 0)), (26, (.ifCond .ne 14, 29, 40, 0, 0, 0, 0)), (29, (.aload_n 0, 30, 0, 0, 0, 0, 0)), (30, (.getfield 12, 33, 8, 0, 2, 0, 0))],
  [(33, (.iload_n 1, 34, 0, 0, 0, 0, 0)), (34, (.invokevirtual 102, 37, 21, 2, 2, 0, 0)), (37, (.goto 11, 40, 48, 0, 0, 0, 0)), (40, (.aload_n 0, 41, 0, 0, 0, 0, 0)), (41, (.getfield 12, 44, 8, 0, 2, 0, 0)), (44, (.iload_n 1, 45, 0, 0, 0, 0, 0)), (45, (.invokevirtual 105, 48, 22, 2, 2, 0, 0))],
  [(48, (.istore_n 3, 49, 0, 0, 0, 0, 0)), (49, (.iload_n 3, 50, 0, 0, 0, 0, 0)), (50, (.iconst (-1), 51, 0, 0, 0, (-1), 0)), (51, (.if_icmp .ne 8, 54, 59, 0, 0, 0, 0)), (54, (.bipush (-5), 56, 0, 0, 0, (-5), 0)), (56, (.goto 4, 59, 60, 0, 0, 0, 0)), (59, (.iload_n 3, 60, 0, 0, 0, 0, 0)), (60, (.ireturn, 61, 0, 0, 0, 0, 0))]]
def md_X8_part : mMd := (yX8_part, 8, cX8_part, 4, (some .int), mt_X8_part)
def mt_X8_size : mTab := [[(0, (.aload_n 0, 1, 0, 0, 0, 0, 0)), (1, (.getfield 12, 4, 8, 0, 2, 0, 0)), (4, (.iload_n 1, 5, 0, 0, 0, 0, 0)), (5, (.invokevirtual 87, 8, 19, 2, 2, 0, 0)), (8, (.ifCond .eq 15, 11, 23, 0, 0, 0, 0)), (11, (.aload_n 0, 12, 0, 0, 0, 0, 0)), (12, (.getfield 12, 15, 8, 0, 2, 0, 0)), (15, (.getfield 108, 18, 2, 3, 2, 0, 0))],
  [(18, (.iload_n 1, 19, 0, 0, 0, 0, 0)), (19, (.iaload, 20, 0, 0, 0, 0, 0)), (20, (.goto 5, 23, 25, 0, 0, 0, 0)), (23, (.bipush (-2), 25, 0, 0, 0, (-2), 0)), (25, (.ireturn, 26, 0, 0, 0, 0, 0))]]
def md_X8_size : mMd := (yX8_size, 8, cX8_size, 2, (some .int), mt_X8_size)
def mt_X8_subformulas : mTab := [[(0, (.aload_n 0, 1, 0, 0, 0, 0, 0)), (1, (.getfield 12, 4, 8, 0, 2, 0, 0)), (4, (.iload_n 1, 5, 0, 0, 0, 0, 0)), (5, (.invokevirtual 87, 8, 19, 2, 2, 0, 0)), (8, (.ifCond .eq 15, 11, 23, 0, 0, 0, 0)), (11, (.aload_n 0, 12, 0, 0, 0, 0, 0)), (12, (.getfield 12, 15, 8, 0, 2, 0, 0)), (15, (.getfield 112, 18, 2, 5, 2, 0, 0))],
  [(18, (.iload_n 1, 19, 0, 0, 0, 0, 0)), (19, (.laload, 20, 0, 0, 0, 0, 0)), (20, (.goto 6, 23, 26, 0, 0, 0, 0)), (23, (.ldc2_w 116, 26, 0, 0, 0, 0, (-9223372036854775808))), (26, (.lreturn, 27, 0, 0, 0, 0, 0))]]
def md_X8_subformulas : mMd := (yX8_subformulas, 8, cX8_subformulas, 2, (some .long), mt_X8_subformulas)
def mt_X8_truthTable : mTab := [[(0, (.aload_n 0, 1, 0, 0, 0, 0, 0)), (1, (.getfield 12, 4, 8, 0, 2, 0, 0)), (4, (.iload_n 1, 5, 0, 0, 0, 0, 0)), (5, (.invokevirtual 87, 8, 19, 2, 2, 0, 0)), (8, (.ifCond .eq 15, 11, 23, 0, 0, 0, 0)), (11, (.aload_n 0, 12, 0, 0, 0, 0, 0)), (12, (.getfield 12, 15, 8, 0, 2, 0, 0)), (15, (.getfield 118, 18, 2, 4, 2, 0, 0))],
  [(18, (.iload_n 1, 19, 0, 0, 0, 0, 0)), (19, (.iaload, 20, 0, 0, 0, 0, 0)), (20, (.goto 5, 23, 25, 0, 0, 0, 0)), (23, (.bipush (-2), 25, 0, 0, 0, (-2), 0)), (25, (.ireturn, 26, 0, 0, 0, 0, 0))]]
def md_X8_truthTable : mMd := (yX8_truthTable, 8, cX8_truthTable, 2, (some .int), mt_X8_truthTable)
def mt_X8_isEquivalent : mTab := [[(0, (.aload_n 0, 1, 0, 0, 0, 0, 0)), (1, (.getfield 12, 4, 8, 0, 2, 0, 0)), (4, (.iload_n 1, 5, 0, 0, 0, 0, 0)), (5, (.invokevirtual 87, 8, 19, 2, 2, 0, 0)), (8, (.ifCond .eq 14, 11, 22, 0, 0, 0, 0)), (11, (.aload_n 0, 12, 0, 0, 0, 0, 0)), (12, (.getfield 12, 15, 8, 0, 2, 0, 0)), (15, (.iload_n 2, 16, 0, 0, 0, 0, 0))],
  [(16, (.invokevirtual 87, 19, 19, 2, 2, 0, 0)), (19, (.ifCond .ne 6, 22, 25, 0, 0, 0, 0)), (22, (.bipush (-2), 24, 0, 0, 0, (-2), 0)), (24, (.ireturn, 25, 0, 0, 0, 0, 0)), (25, (.aload_n 0, 26, 0, 0, 0, 0, 0)), (26, (.getfield 12, 29, 8, 0, 2, 0, 0)), (29, (.getfield 118, 32, 2, 4, 2, 0, 0))],
  [(32, (.iload_n 1, 33, 0, 0, 0, 0, 0)), (33, (.iaload, 34, 0, 0, 0, 0, 0)), (34, (.aload_n 0, 35, 0, 0, 0, 0, 0)), (35, (.getfield 12, 38, 8, 0, 2, 0, 0)), (38, (.getfield 118, 41, 2, 4, 2, 0, 0)), (41, (.iload_n 2, 42, 0, 0, 0, 0, 0)), (42, (.iaload, 43, 0, 0, 0, 0, 0)), (43, (.if_icmp .ne 7, 46, 50, 0, 0, 0, 0)), (46, (.iconst 1, 47, 0, 0, 0, 1, 0)), (47, (.goto 4, 50, 51, 0, 0, 0, 0))],
  [(50, (.iconst 0, 51, 0, 0, 0, 0, 0)), (51, (.ireturn, 52, 0, 0, 0, 0, 0))]]
def md_X8_isEquivalent : mMd := (yX8_isEquivalent, 8, cX8_isEquivalent, 3, (some .int), mt_X8_isEquivalent)
def mt_X8_transform : mTab := [[(0, (.aload_n 0, 1, 0, 0, 0, 0, 0)), (1, (.getfield 37, 4, 8, 3, 2, 0, 0)), (4, (.aload_n 0, 5, 0, 0, 0, 0, 0)), (5, (.getfield 21, 8, 8, 1, 2, 0, 0)), (8, (.invokevirtual 121, 11, 70, 2, 7, 0, 0)), (11, (.istore_n 2, 12, 0, 0, 0, 0, 0)), (12, (.aload_n 0, 13, 0, 0, 0, 0, 0)), (13, (.getfield 21, 16, 8, 1, 2, 0, 0))],
  [(16, (.iconst 0, 17, 0, 0, 0, 0, 0)), (17, (.putfield 77, 20, 3, 1, 0, 0, 0)), (20, (.aload_n 0, 21, 0, 0, 0, 0, 0)), (21, (.getfield 12, 24, 8, 0, 2, 0, 0)), (24, (.iload_n 1, 25, 0, 0, 0, 0, 0)), (25, (.invokevirtual 87, 28, 19, 2, 2, 0, 0)), (28, (.ifCond .ne 6, 31, 34, 0, 0, 0, 0)), (31, (.bipush (-2), 33, 0, 0, 0, (-2), 0))],
  [(33, (.ireturn, 34, 0, 0, 0, 0, 0)), (34, (.aload_n 0, 35, 0, 0, 0, 0, 0)), (35, (.getfield 37, 38, 8, 3, 2, 0, 0)), (38, (.iload_n 2, 39, 0, 0, 0, 0, 0)), (39, (.iload_n 1, 40, 0, 0, 0, 0, 0)), (40, (.invokevirtual 124, 43, 71, 3, 7, 0, 0)), (43, (.ifCond .ne 6, 46, 49, 0, 0, 0, 0)), (46, (.bipush (-4), 48, 0, 0, 0, (-4), 0))],
  [(48, (.ireturn, 49, 0, 0, 0, 0, 0)), (49, (.aload_n 0, 50, 0, 0, 0, 0, 0)), (50, (.getfield 12, 53, 8, 0, 2, 0, 0)), (53, (.getfield 62, 56, 2, 6, 0, 0, 0)), (56, (.istore_n 3, 57, 0, 0, 0, 0, 0)), (57, (.aload_n 0, 58, 0, 0, 0, 0, 0)), (58, (.getfield 37, 61, 8, 3, 2, 0, 0)), (61, (.iload_n 2, 62, 0, 0, 0, 0, 0)), (62, (.iload_n 1, 63, 0, 0, 0, 0, 0)), (63, (.invokevirtual 127, 66, 72, 3, 7, 0, 0))],
  [(66, (.istore 4, 68, 0, 0, 0, 0, 0)), (68, (.iload 4, 70, 0, 0, 0, 0, 0)), (70, (.ifCond .ge 11, 73, 81, 0, 0, 0, 0)), (73, (.aload_n 0, 74, 0, 0, 0, 0, 0)), (74, (.getfield 12, 77, 8, 0, 2, 0, 0)), (77, (.iload_n 3, 78, 0, 0, 0, 0, 0)), (78, (.invokevirtual 66, 81, 24, 2, 2, 0, 0))],
  [(81, (.iload 4, 83, 0, 0, 0, 0, 0)), (83, (.ireturn, 84, 0, 0, 0, 0, 0))]]
def md_X8_transform : mMd := (yX8_transform, 8, cX8_transform, 5, (some .int), mt_X8_transform)
def mt_X8_rank : mTab := [[(0, (.aload_n 0, 1, 0, 0, 0, 0, 0)), (1, (.getfield 12, 4, 8, 0, 2, 0, 0)), (4, (.iload_n 1, 5, 0, 0, 0, 0, 0)), (5, (.invokevirtual 87, 8, 19, 2, 2, 0, 0)), (8, (.ifCond .ne 6, 11, 14, 0, 0, 0, 0)), (11, (.bipush (-2), 13, 0, 0, 0, (-2), 0)), (13, (.ireturn, 14, 0, 0, 0, 0, 0)), (14, (.iload_n 2, 15, 0, 0, 0, 0, 0)), (15, (.invokestatic 131, 18, 111, 1, 0, 0, 0))],
  [(18, (.ifCond .ne 5, 21, 23, 0, 0, 0, 0)), (21, (.iconst (-1), 22, 0, 0, 0, (-1), 0)), (22, (.ireturn, 23, 0, 0, 0, 0, 0)), (23, (.aload_n 0, 24, 0, 0, 0, 0, 0)), (24, (.iload_n 1, 25, 0, 0, 0, 0, 0)), (25, (.iload_n 2, 26, 0, 0, 0, 0, 0)), (26, (.invokevirtual 134, 29, 113, 3, 8, 0, 0)), (29, (.ireturn, 30, 0, 0, 0, 0, 0))]]
def md_X8_rank : mMd := (yX8_rank, 8, cX8_rank, 3, (some .int), mt_X8_rank)
def mt_X8_positionCount : mTab := [[(0, (.aload_n 0, 1, 0, 0, 0, 0, 0)), (1, (.getfield 12, 4, 8, 0, 2, 0, 0)), (4, (.iload_n 1, 5, 0, 0, 0, 0, 0)), (5, (.invokevirtual 87, 8, 19, 2, 2, 0, 0)), (8, (.ifCond .ne 6, 11, 14, 0, 0, 0, 0)), (11, (.bipush (-2), 13, 0, 0, 0, (-2), 0)), (13, (.ireturn, 14, 0, 0, 0, 0, 0)), (14, (.iload_n 2, 15, 0, 0, 0, 0, 0)), (15, (.invokestatic 131, 18, 111, 1, 0, 0, 0))],
  [(18, (.ifCond .ne 5, 21, 23, 0, 0, 0, 0)), (21, (.iconst (-1), 22, 0, 0, 0, (-1), 0)), (22, (.ireturn, 23, 0, 0, 0, 0, 0)), (23, (.aload_n 0, 24, 0, 0, 0, 0, 0)), (24, (.getfield 51, 27, 8, 5, 2, 0, 0)), (27, (.iload_n 1, 28, 0, 0, 0, 0, 0)), (28, (.iload_n 2, 29, 0, 0, 0, 0, 0)), (29, (.invokevirtual 137, 32, 34, 3, 4, 0, 0))],
  [(32, (.aload_n 0, 33, 0, 0, 0, 0, 0)), (33, (.getfield 51, 36, 8, 5, 2, 0, 0)), (36, (.invokevirtual 141, 39, 37, 1, 4, 0, 0)), (39, (.ifCond .eq 13, 42, 52, 0, 0, 0, 0)), (42, (.aload_n 0, 43, 0, 0, 0, 0, 0)), (43, (.getfield 51, 46, 8, 5, 2, 0, 0)), (46, (.getfield 145, 49, 4, 10, 0, 0, 0))],
  [(49, (.goto 5, 52, 54, 0, 0, 0, 0)), (52, (.bipush (-6), 54, 0, 0, 0, (-6), 0)), (54, (.ireturn, 55, 0, 0, 0, 0, 0))]]
def md_X8_positionCount : mMd := (yX8_positionCount, 8, cX8_positionCount, 3, (some .int), mt_X8_positionCount)
def mt_X8_manners : mTab := [[(0, (.aload_n 0, 1, 0, 0, 0, 0, 0)), (1, (.getfield 12, 4, 8, 0, 2, 0, 0)), (4, (.iload_n 1, 5, 0, 0, 0, 0, 0)), (5, (.invokevirtual 87, 8, 19, 2, 2, 0, 0)), (8, (.ifCond .ne 6, 11, 14, 0, 0, 0, 0)), (11, (.bipush (-2), 13, 0, 0, 0, (-2), 0)), (13, (.ireturn, 14, 0, 0, 0, 0, 0)), (14, (.aload_n 0, 15, 0, 0, 0, 0, 0)), (15, (.iload_n 1, 16, 0, 0, 0, 0, 0))],
  [(16, (.iconst 1, 17, 0, 0, 0, 1, 0)), (17, (.invokevirtual 134, 20, 113, 3, 8, 0, 0)), (20, (.istore_n 2, 21, 0, 0, 0, 0, 0)), (21, (.aload_n 0, 22, 0, 0, 0, 0, 0)), (22, (.iload_n 1, 23, 0, 0, 0, 0, 0)), (23, (.iconst 0, 24, 0, 0, 0, 0, 0)), (24, (.invokevirtual 134, 27, 113, 3, 8, 0, 0)), (27, (.istore_n 3, 28, 0, 0, 0, 0, 0)), (28, (.iload_n 2, 29, 0, 0, 0, 0, 0)), (29, (.bipush (-6), 31, 0, 0, 0, (-6), 0)), (31, (.if_icmp .eq 9, 34, 40, 0, 0, 0, 0))],
  [(34, (.iload_n 3, 35, 0, 0, 0, 0, 0)), (35, (.bipush (-6), 37, 0, 0, 0, (-6), 0)), (37, (.if_icmp .ne 6, 40, 43, 0, 0, 0, 0)), (40, (.bipush (-6), 42, 0, 0, 0, (-6), 0)), (42, (.ireturn, 43, 0, 0, 0, 0, 0)), (43, (.iload_n 2, 44, 0, 0, 0, 0, 0)), (44, (.ifCond .le 7, 47, 51, 0, 0, 0, 0)), (47, (.iconst 1, 48, 0, 0, 0, 1, 0))],
  [(48, (.goto 4, 51, 52, 0, 0, 0, 0)), (51, (.iconst 0, 52, 0, 0, 0, 0, 0)), (52, (.iload_n 3, 53, 0, 0, 0, 0, 0)), (53, (.ifCond .le 7, 56, 60, 0, 0, 0, 0)), (56, (.iconst 2, 57, 0, 0, 0, 2, 0)), (57, (.goto 4, 60, 61, 0, 0, 0, 0)), (60, (.iconst 0, 61, 0, 0, 0, 0, 0)), (61, (.iadd, 62, 0, 0, 0, 0, 0)), (62, (.ireturn, 63, 0, 0, 0, 0, 0))]]
def md_X8_manners : mMd := (yX8_manners, 8, cX8_manners, 4, (some .int), mt_X8_manners)
def mt_X8_begin : mTab := [[(0, (.aload_n 0, 1, 0, 0, 0, 0, 0)), (1, (.getfield 12, 4, 8, 0, 2, 0, 0)), (4, (.iload_n 1, 5, 0, 0, 0, 0, 0)), (5, (.invokevirtual 87, 8, 19, 2, 2, 0, 0)), (8, (.ifCond .ne 6, 11, 14, 0, 0, 0, 0)), (11, (.bipush (-2), 13, 0, 0, 0, (-2), 0)), (13, (.ireturn, 14, 0, 0, 0, 0, 0)), (14, (.iload_n 2, 15, 0, 0, 0, 0, 0)), (15, (.invokestatic 131, 18, 111, 1, 0, 0, 0))],
  [(18, (.ifCond .eq 19, 21, 37, 0, 0, 0, 0)), (21, (.iload_n 3, 22, 0, 0, 0, 0, 0)), (22, (.ifCond .lt 15, 25, 37, 0, 0, 0, 0)), (25, (.iload_n 3, 26, 0, 0, 0, 0, 0)), (26, (.aload_n 0, 27, 0, 0, 0, 0, 0)), (27, (.getfield 12, 30, 8, 0, 2, 0, 0)), (30, (.iload_n 1, 31, 0, 0, 0, 0, 0)), (31, (.invokevirtual 148, 34, 23, 2, 2, 0, 0))],
  [(34, (.if_icmp .lt 5, 37, 39, 0, 0, 0, 0)), (37, (.iconst (-1), 38, 0, 0, 0, (-1), 0)), (38, (.ireturn, 39, 0, 0, 0, 0, 0)), (39, (.aload_n 0, 40, 0, 0, 0, 0, 0)), (40, (.getfield 44, 43, 8, 4, 2, 0, 0)), (43, (.iload_n 1, 44, 0, 0, 0, 0, 0)), (44, (.iload_n 2, 45, 0, 0, 0, 0, 0)), (45, (.iload_n 3, 46, 0, 0, 0, 0, 0)), (46, (.invokevirtual 151, 49, 14, 4, 1, 0, 0))],
  [(49, (.aload_n 0, 50, 0, 0, 0, 0, 0)), (50, (.getfield 44, 53, 8, 4, 2, 0, 0)), (53, (.getfield 155, 56, 1, 0, 2, 0, 0)), (56, (.getfield 159, 59, 0, 3, 0, 0, 0)), (59, (.ireturn, 60, 0, 0, 0, 0, 0))]]
def md_X8_begin : mMd := (yX8_begin, 8, cX8_begin, 4, (some .int), mt_X8_begin)
def mt_X8_claims : mTab := [[(0, (.aload_n 0, 1, 0, 0, 0, 0, 0)), (1, (.getfield 44, 4, 8, 4, 2, 0, 0)), (4, (.invokevirtual 164, 7, 12, 1, 1, 0, 0)), (7, (.ifCond .eq 16, 10, 23, 0, 0, 0, 0)), (10, (.aload_n 0, 11, 0, 0, 0, 0, 0)), (11, (.getfield 44, 14, 8, 4, 2, 0, 0)), (14, (.getfield 155, 17, 1, 0, 2, 0, 0))],
  [(17, (.getfield 167, 20, 0, 5, 1, 0, 0)), (20, (.goto 6, 23, 26, 0, 0, 0, 0)), (23, (.ldc2_w 116, 26, 0, 0, 0, 0, (-9223372036854775808))), (26, (.lreturn, 27, 0, 0, 0, 0, 0))]]
def md_X8_claims : mMd := (yX8_claims, 8, cX8_claims, 1, (some .long), mt_X8_claims)
def mt_X8_defences : mTab := [[(0, (.aload_n 0, 1, 0, 0, 0, 0, 0)), (1, (.getfield 44, 4, 8, 4, 2, 0, 0)), (4, (.invokevirtual 164, 7, 12, 1, 1, 0, 0)), (7, (.ifCond .eq 16, 10, 23, 0, 0, 0, 0)), (10, (.aload_n 0, 11, 0, 0, 0, 0, 0)), (11, (.getfield 44, 14, 8, 4, 2, 0, 0)), (14, (.getfield 155, 17, 1, 0, 2, 0, 0))],
  [(17, (.getfield 171, 20, 0, 6, 1, 0, 0)), (20, (.goto 6, 23, 26, 0, 0, 0, 0)), (23, (.ldc2_w 116, 26, 0, 0, 0, 0, (-9223372036854775808))), (26, (.lreturn, 27, 0, 0, 0, 0, 0))]]
def md_X8_defences : mMd := (yX8_defences, 8, cX8_defences, 1, (some .long), mt_X8_defences)
def mt_X8_moveCount : mTab := [[(0, (.aload_n 0, 1, 0, 0, 0, 0, 0)), (1, (.getfield 44, 4, 8, 4, 2, 0, 0)), (4, (.invokevirtual 164, 7, 12, 1, 1, 0, 0)), (7, (.ifCond .eq 16, 10, 23, 0, 0, 0, 0)), (10, (.aload_n 0, 11, 0, 0, 0, 0, 0)), (11, (.getfield 44, 14, 8, 4, 2, 0, 0)), (14, (.getfield 155, 17, 1, 0, 2, 0, 0))],
  [(17, (.getfield 159, 20, 0, 3, 0, 0, 0)), (20, (.goto 5, 23, 25, 0, 0, 0, 0)), (23, (.bipush (-7), 25, 0, 0, 0, (-7), 0)), (25, (.ireturn, 26, 0, 0, 0, 0, 0))]]
def md_X8_moveCount : mMd := (yX8_moveCount, 8, cX8_moveCount, 1, (some .int), mt_X8_moveCount)
def mt_X8_move : mTab := [[(0, (.aload_n 0, 1, 0, 0, 0, 0, 0)), (1, (.getfield 44, 4, 8, 4, 2, 0, 0)), (4, (.invokevirtual 164, 7, 12, 1, 1, 0, 0)), (7, (.ifCond .ne 6, 10, 13, 0, 0, 0, 0)), (10, (.bipush (-7), 12, 0, 0, 0, (-7), 0)), (12, (.ireturn, 13, 0, 0, 0, 0, 0)), (13, (.iload_n 2, 14, 0, 0, 0, 0, 0)), (14, (.ifCond .lt 8, 17, 22, 0, 0, 0, 0))],
  [(17, (.iload_n 2, 18, 0, 0, 0, 0, 0)), (18, (.iconst 2, 19, 0, 0, 0, 2, 0)), (19, (.if_icmp .le 5, 22, 24, 0, 0, 0, 0)), (22, (.iconst (-1), 23, 0, 0, 0, (-1), 0)), (23, (.ireturn, 24, 0, 0, 0, 0, 0)), (24, (.aload_n 0, 25, 0, 0, 0, 0, 0)), (25, (.getfield 44, 28, 8, 4, 2, 0, 0)), (28, (.getfield 155, 31, 1, 0, 2, 0, 0)), (31, (.astore_n 3, 32, 0, 0, 0, 0, 0))],
  [(32, (.aload_n 3, 33, 0, 0, 0, 0, 0)), (33, (.iload_n 1, 34, 0, 0, 0, 0, 0)), (34, (.invokevirtual 173, 37, 5, 2, 0, 0, 0)), (37, (.ifCond .ne 6, 40, 43, 0, 0, 0, 0)), (40, (.bipush (-5), 42, 0, 0, 0, (-5), 0)), (42, (.ireturn, 43, 0, 0, 0, 0, 0)), (43, (.iload_n 2, 44, 0, 0, 0, 0, 0)), (44, (.iconst 2, 45, 0, 0, 0, 2, 0)), (45, (.if_icmp .ne 9, 48, 54, 0, 0, 0, 0))],
  [(48, (.aload_n 3, 49, 0, 0, 0, 0, 0)), (49, (.iload_n 1, 50, 0, 0, 0, 0, 0)), (50, (.invokevirtual 176, 53, 6, 2, 0, 0, 0)), (53, (.ireturn, 54, 0, 0, 0, 0, 0)), (54, (.iload_n 2, 55, 0, 0, 0, 0, 0)), (55, (.ifCond .ne 12, 58, 67, 0, 0, 0, 0)), (58, (.aload_n 3, 59, 0, 0, 0, 0, 0)), (59, (.getfield 179, 62, 0, 1, 2, 0, 0)), (62, (.iload_n 1, 63, 0, 0, 0, 0, 0)), (63, (.iaload, 64, 0, 0, 0, 0, 0))],
  [(64, (.goto 9, 67, 73, 0, 0, 0, 0)), (67, (.aload_n 3, 68, 0, 0, 0, 0, 0)), (68, (.getfield 182, 71, 0, 2, 2, 0, 0)), (71, (.iload_n 1, 72, 0, 0, 0, 0, 0)), (72, (.iaload, 73, 0, 0, 0, 0, 0)), (73, (.ireturn, 74, 0, 0, 0, 0, 0))]]
def md_X8_move : mMd := (yX8_move, 8, cX8_move, 4, (some .int), mt_X8_move)
def mt_X8_play : mTab := [[(0, (.aload_n 0, 1, 0, 0, 0, 0, 0)), (1, (.getfield 44, 4, 8, 4, 2, 0, 0)), (4, (.iload_n 1, 5, 0, 0, 0, 0, 0)), (5, (.iload_n 2, 6, 0, 0, 0, 0, 0)), (6, (.invokevirtual 185, 9, 15, 3, 1, 0, 0)), (9, (.ireturn, 10, 0, 0, 0, 0, 0))]]
def md_X8_play : mMd := (yX8_play, 8, cX8_play, 3, (some .int), mt_X8_play)
def mt_X8_takeBack : mTab := [[(0, (.aload_n 0, 1, 0, 0, 0, 0, 0)), (1, (.getfield 44, 4, 8, 4, 2, 0, 0)), (4, (.invokevirtual 188, 7, 16, 1, 1, 0, 0)), (7, (.ifCond .eq 13, 10, 20, 0, 0, 0, 0)), (10, (.aload_n 0, 11, 0, 0, 0, 0, 0)), (11, (.getfield 44, 14, 8, 4, 2, 0, 0)), (14, (.getfield 191, 17, 1, 3, 0, 0, 0))],
  [(17, (.goto 5, 20, 22, 0, 0, 0, 0)), (20, (.bipush (-5), 22, 0, 0, 0, (-5), 0)), (22, (.ireturn, 23, 0, 0, 0, 0, 0))]]
def md_X8_takeBack : mMd := (yX8_takeBack, 8, cX8_takeBack, 1, (some .int), mt_X8_takeBack)
def mt_X8_positionRank : mTab := [[(0, (.aload_n 0, 1, 0, 0, 0, 0, 0)), (1, (.invokevirtual 194, 4, 114, 1, 8, 0, 0)), (4, (.istore_n 1, 5, 0, 0, 0, 0, 0)), (5, (.iload_n 1, 6, 0, 0, 0, 0, 0)), (6, (.ifCond .ne 8, 9, 14, 0, 0, 0, 0)), (9, (.bipush (-5), 11, 0, 0, 0, (-5), 0)), (11, (.goto 4, 14, 15, 0, 0, 0, 0)), (14, (.iload_n 1, 15, 0, 0, 0, 0, 0)), (15, (.ireturn, 16, 0, 0, 0, 0, 0))]]
def md_X8_positionRank : mMd := (yX8_positionRank, 8, cX8_positionRank, 2, (some .int), mt_X8_positionRank)
def mt_X8_bestMove : mTab := [[(0, (.aload_n 0, 1, 0, 0, 0, 0, 0)), (1, (.invokevirtual 194, 4, 114, 1, 8, 0, 0)), (4, (.istore_n 1, 5, 0, 0, 0, 0, 0)), (5, (.iload_n 1, 6, 0, 0, 0, 0, 0)), (6, (.ifCond .gt 14, 9, 20, 0, 0, 0, 0)), (9, (.iload_n 1, 10, 0, 0, 0, 0, 0)), (10, (.ifCond .ne 8, 13, 18, 0, 0, 0, 0)), (13, (.bipush (-5), 15, 0, 0, 0, (-5), 0)), (15, (.goto 4, 18, 19, 0, 0, 0, 0))],
  [(18, (.iload_n 1, 19, 0, 0, 0, 0, 0)), (19, (.ireturn, 20, 0, 0, 0, 0, 0)), (20, (.iconst 0, 21, 0, 0, 0, 0, 0)), (21, (.istore_n 2, 22, 0, 0, 0, 0, 0)), (22, (.iload_n 2, 23, 0, 0, 0, 0, 0)), (23, (.aload_n 0, 24, 0, 0, 0, 0, 0)), (24, (.getfield 44, 27, 8, 4, 2, 0, 0)), (27, (.getfield 155, 30, 1, 0, 2, 0, 0)), (30, (.getfield 159, 33, 0, 3, 0, 0, 0))],
  [(33, (.if_icmp .ge 26, 36, 59, 0, 0, 0, 0)), (36, (.aload_n 0, 37, 0, 0, 0, 0, 0)), (37, (.iload_n 2, 38, 0, 0, 0, 0, 0)), (38, (.invokevirtual 198, 41, 116, 2, 8, 0, 0)), (41, (.istore_n 3, 42, 0, 0, 0, 0, 0)), (42, (.iload_n 3, 43, 0, 0, 0, 0, 0)), (43, (.ifCond .lt 10, 46, 53, 0, 0, 0, 0)), (46, (.iload_n 3, 47, 0, 0, 0, 0, 0)), (47, (.iload_n 1, 48, 0, 0, 0, 0, 0))],
  [(48, (.if_icmp .ge 5, 51, 53, 0, 0, 0, 0)), (51, (.iload_n 2, 52, 0, 0, 0, 0, 0)), (52, (.ireturn, 53, 0, 0, 0, 0, 0)), (53, (.iinc 2 1, 56, 0, 0, 0, 1, 0)), (56, (.goto (-34), 59, 22, 0, 0, 0, 0)), (59, (.bipush (-5), 61, 0, 0, 0, (-5), 0)), (61, (.ireturn, 62, 0, 0, 0, 0, 0))]]
def md_X8_bestMove : mMd := (yX8_bestMove, 8, cX8_bestMove, 4, (some .int), mt_X8_bestMove)
def mt_X8_hardestReply : mTab := [[(0, (.aload_n 0, 1, 0, 0, 0, 0, 0)), (1, (.invokevirtual 194, 4, 114, 1, 8, 0, 0)), (4, (.istore_n 2, 5, 0, 0, 0, 0, 0)), (5, (.iload_n 2, 6, 0, 0, 0, 0, 0)), (6, (.ifCond .ge 5, 9, 11, 0, 0, 0, 0)), (9, (.iload_n 2, 10, 0, 0, 0, 0, 0)), (10, (.ireturn, 11, 0, 0, 0, 0, 0)), (11, (.bipush (-5), 13, 0, 0, 0, (-5), 0)), (13, (.istore_n 3, 14, 0, 0, 0, 0, 0)), (14, (.iconst 0, 15, 0, 0, 0, 0, 0)), (15, (.istore 4, 17, 0, 0, 0, 0, 0))],
  [(17, (.aload_n 0, 18, 0, 0, 0, 0, 0)), (18, (.getfield 44, 21, 8, 4, 2, 0, 0)), (21, (.getfield 155, 24, 1, 0, 2, 0, 0)), (24, (.iload_n 1, 25, 0, 0, 0, 0, 0)), (25, (.invokevirtual 176, 28, 6, 2, 0, 0, 0)), (28, (.istore 5, 30, 0, 0, 0, 0, 0)), (30, (.iconst 0, 31, 0, 0, 0, 0, 0)), (31, (.istore 6, 33, 0, 0, 0, 0, 0))],
  [(33, (.iload 6, 35, 0, 0, 0, 0, 0)), (35, (.iload 5, 37, 0, 0, 0, 0, 0)), (37, (.if_icmp .ge 40, 40, 77, 0, 0, 0, 0)), (40, (.aload_n 0, 41, 0, 0, 0, 0, 0)), (41, (.iload_n 1, 42, 0, 0, 0, 0, 0)), (42, (.iload 6, 44, 0, 0, 0, 0, 0)), (44, (.invokevirtual 201, 47, 115, 3, 8, 0, 0)), (47, (.istore 7, 49, 0, 0, 0, 0, 0))],
  [(49, (.iload 7, 51, 0, 0, 0, 0, 0)), (51, (.ifCond .ne 6, 54, 57, 0, 0, 0, 0)), (54, (.iload 6, 56, 0, 0, 0, 0, 0)), (56, (.ireturn, 57, 0, 0, 0, 0, 0)), (57, (.iload 7, 59, 0, 0, 0, 0, 0)), (59, (.iload 4, 61, 0, 0, 0, 0, 0)), (61, (.if_icmp .le 10, 64, 71, 0, 0, 0, 0))],
  [(64, (.iload 7, 66, 0, 0, 0, 0, 0)), (66, (.istore 4, 68, 0, 0, 0, 0, 0)), (68, (.iload 6, 70, 0, 0, 0, 0, 0)), (70, (.istore_n 3, 71, 0, 0, 0, 0, 0)), (71, (.iinc 6 1, 74, 0, 0, 0, 1, 0)), (74, (.goto (-41), 77, 33, 0, 0, 0, 0)), (77, (.iload_n 3, 78, 0, 0, 0, 0, 0)), (78, (.ireturn, 79, 0, 0, 0, 0, 0))]]
def md_X8_hardestReply : mMd := (yX8_hardestReply, 8, cX8_hardestReply, 8, (some .int), mt_X8_hardestReply)
def mt_X8_allocate : mTab := [[(0, (.aload_n 0, 1, 0, 0, 0, 0, 0)), (1, (.iload_n 1, 2, 0, 0, 0, 0, 0)), (2, (.invokevirtual 204, 5, 112, 2, 8, 0, 0)), (5, (.astore 4, 7, 0, 0, 0, 0, 0)), (7, (.aload 4, 9, 0, 0, 0, 0, 0)), (9, (.ifnull 18, 12, 27, 0, 0, 0, 0)), (12, (.iload_n 2, 13, 0, 0, 0, 0, 0)), (13, (.ifCond .lt 14, 16, 27, 0, 0, 0, 0))],
  [(16, (.iload_n 2, 17, 0, 0, 0, 0, 0)), (17, (.iconst 3, 18, 0, 0, 0, 3, 0)), (18, (.if_icmp .gt 9, 21, 27, 0, 0, 0, 0)), (21, (.iload_n 3, 22, 0, 0, 0, 0, 0)), (22, (.bipush 40, 24, 0, 0, 0, 40, 0)), (24, (.if_icmp .le 5, 27, 29, 0, 0, 0, 0)), (27, (.iconst (-1), 28, 0, 0, 0, (-1), 0)), (28, (.ireturn, 29, 0, 0, 0, 0, 0)), (29, (.iload_n 3, 30, 0, 0, 0, 0, 0)), (30, (.ifCond .ge 6, 33, 36, 0, 0, 0, 0))],
  [(33, (.bipush (-14), 35, 0, 0, 0, (-14), 0)), (35, (.ireturn, 36, 0, 0, 0, 0, 0)), (36, (.aload 4, 38, 0, 0, 0, 0, 0)), (38, (.iload_n 2, 39, 0, 0, 0, 0, 0)), (39, (.iload_n 3, 40, 0, 0, 0, 0, 0)), (40, (.invokevirtual 208, 43, 51, 3, 5, 0, 0)), (43, (.iload_n 3, 44, 0, 0, 0, 0, 0)), (44, (.ireturn, 45, 0, 0, 0, 0, 0))]]
def md_X8_allocate : mMd := (yX8_allocate, 8, cX8_allocate, 5, (some .int), mt_X8_allocate)
def mt_X8_release : mTab := [[(0, (.aload_n 0, 1, 0, 0, 0, 0, 0)), (1, (.iload_n 1, 2, 0, 0, 0, 0, 0)), (2, (.invokevirtual 204, 5, 112, 2, 8, 0, 0)), (5, (.astore_n 2, 6, 0, 0, 0, 0, 0)), (6, (.aload_n 2, 7, 0, 0, 0, 0, 0)), (7, (.ifnonnull 5, 10, 12, 0, 0, 0, 0)), (10, (.iconst (-1), 11, 0, 0, 0, (-1), 0)), (11, (.ireturn, 12, 0, 0, 0, 0, 0)), (12, (.aload_n 2, 13, 0, 0, 0, 0, 0)), (13, (.invokevirtual 211, 16, 52, 1, 5, 0, 0))],
  [(16, (.ifCond .eq 7, 19, 23, 0, 0, 0, 0)), (19, (.iconst 1, 20, 0, 0, 0, 1, 0)), (20, (.goto 4, 23, 24, 0, 0, 0, 0)), (23, (.iconst 0, 24, 0, 0, 0, 0, 0)), (24, (.ireturn, 25, 0, 0, 0, 0, 0))]]
def md_X8_release : mMd := (yX8_release, 8, cX8_release, 3, (some .int), mt_X8_release)
def mt_X8_putElement : mTab := [[(0, (.aload_n 0, 1, 0, 0, 0, 0, 0)), (1, (.iload_n 1, 2, 0, 0, 0, 0, 0)), (2, (.invokevirtual 204, 5, 112, 2, 8, 0, 0)), (5, (.astore 5, 7, 0, 0, 0, 0, 0)), (7, (.aload 5, 9, 0, 0, 0, 0, 0)), (9, (.ifnonnull 5, 12, 14, 0, 0, 0, 0)), (12, (.iconst (-1), 13, 0, 0, 0, (-1), 0)), (13, (.ireturn, 14, 0, 0, 0, 0, 0)), (14, (.aload 5, 16, 0, 0, 0, 0, 0))],
  [(16, (.invokevirtual 213, 19, 48, 1, 5, 0, 0)), (19, (.ifCond .eq 6, 22, 25, 0, 0, 0, 0)), (22, (.bipush (-11), 24, 0, 0, 0, (-11), 0)), (24, (.ireturn, 25, 0, 0, 0, 0, 0)), (25, (.aload 5, 27, 0, 0, 0, 0, 0)), (27, (.iload_n 2, 28, 0, 0, 0, 0, 0)), (28, (.iconst 1, 29, 0, 0, 0, 1, 0)), (29, (.invokevirtual 216, 32, 50, 3, 5, 0, 0))],
  [(32, (.ifCond .ne 6, 35, 38, 0, 0, 0, 0)), (35, (.bipush (-13), 37, 0, 0, 0, (-13), 0)), (37, (.ireturn, 38, 0, 0, 0, 0, 0)), (38, (.aload 5, 40, 0, 0, 0, 0, 0)), (40, (.iload_n 2, 41, 0, 0, 0, 0, 0)), (41, (.lload_n 3, 42, 0, 0, 0, 0, 0)), (42, (.invokevirtual 219, 45, 53, 3, 5, 0, 0)), (45, (.iconst 1, 46, 0, 0, 0, 1, 0)), (46, (.ireturn, 47, 0, 0, 0, 0, 0))]]
def md_X8_putElement : mMd := (yX8_putElement, 8, cX8_putElement, 6, (some .int), mt_X8_putElement)
def mt_X8_element : mTab := [[(0, (.aload_n 0, 1, 0, 0, 0, 0, 0)), (1, (.iload_n 1, 2, 0, 0, 0, 0, 0)), (2, (.invokevirtual 204, 5, 112, 2, 8, 0, 0)), (5, (.astore_n 3, 6, 0, 0, 0, 0, 0)), (6, (.aload_n 3, 7, 0, 0, 0, 0, 0)), (7, (.ifnull 19, 10, 26, 0, 0, 0, 0)), (10, (.aload_n 3, 11, 0, 0, 0, 0, 0)), (11, (.invokevirtual 213, 14, 48, 1, 5, 0, 0)), (14, (.ifCond .ne 12, 17, 26, 0, 0, 0, 0))],
  [(17, (.aload_n 3, 18, 0, 0, 0, 0, 0)), (18, (.iload_n 2, 19, 0, 0, 0, 0, 0)), (19, (.iconst 1, 20, 0, 0, 0, 1, 0)), (20, (.invokevirtual 216, 23, 50, 3, 5, 0, 0)), (23, (.ifCond .ne 7, 26, 30, 0, 0, 0, 0)), (26, (.ldc2_w 116, 29, 0, 0, 0, 0, (-9223372036854775808))), (29, (.lreturn, 30, 0, 0, 0, 0, 0)), (30, (.aload_n 3, 31, 0, 0, 0, 0, 0)), (31, (.iload_n 2, 32, 0, 0, 0, 0, 0))],
  [(32, (.invokevirtual 223, 35, 54, 2, 5, 0, 0)), (35, (.lreturn, 36, 0, 0, 0, 0, 0))]]
def md_X8_element : mMd := (yX8_element, 8, cX8_element, 4, (some .long), mt_X8_element)
def mt_X8_compute : mTab := [[(0, (.aload_n 0, 1, 0, 0, 0, 0, 0)), (1, (.iload_n 1, 2, 0, 0, 0, 0, 0)), (2, (.invokevirtual 204, 5, 112, 2, 8, 0, 0)), (5, (.astore 5, 7, 0, 0, 0, 0, 0)), (7, (.aload 5, 9, 0, 0, 0, 0, 0)), (9, (.ifnull 12, 12, 21, 0, 0, 0, 0)), (12, (.iload_n 3, 13, 0, 0, 0, 0, 0)), (13, (.ifCond .eq 10, 16, 23, 0, 0, 0, 0))],
  [(16, (.iload_n 3, 17, 0, 0, 0, 0, 0)), (17, (.iconst 1, 18, 0, 0, 0, 1, 0)), (18, (.if_icmp .eq 5, 21, 23, 0, 0, 0, 0)), (21, (.iconst (-1), 22, 0, 0, 0, (-1), 0)), (22, (.ireturn, 23, 0, 0, 0, 0, 0)), (23, (.aload 5, 25, 0, 0, 0, 0, 0)), (25, (.invokevirtual 213, 28, 48, 1, 5, 0, 0)), (28, (.ifCond .eq 6, 31, 34, 0, 0, 0, 0)), (31, (.bipush (-11), 33, 0, 0, 0, (-11), 0))],
  [(33, (.ireturn, 34, 0, 0, 0, 0, 0)), (34, (.aload 5, 36, 0, 0, 0, 0, 0)), (36, (.invokevirtual 227, 39, 49, 1, 5, 0, 0)), (39, (.ifCond .ne 6, 42, 45, 0, 0, 0, 0)), (42, (.bipush (-12), 44, 0, 0, 0, (-12), 0)), (44, (.ireturn, 45, 0, 0, 0, 0, 0)), (45, (.aload 5, 47, 0, 0, 0, 0, 0)), (47, (.iload_n 2, 48, 0, 0, 0, 0, 0))],
  [(48, (.iconst 1, 49, 0, 0, 0, 1, 0)), (49, (.invokevirtual 216, 52, 50, 3, 5, 0, 0)), (52, (.ifCond .ne 6, 55, 58, 0, 0, 0, 0)), (55, (.bipush (-13), 57, 0, 0, 0, (-13), 0)), (57, (.ireturn, 58, 0, 0, 0, 0, 0)), (58, (.iload_n 3, 59, 0, 0, 0, 0, 0)), (59, (.ifCond .ne 14, 62, 73, 0, 0, 0, 0)), (62, (.aload 5, 64, 0, 0, 0, 0, 0))],
  [(64, (.iload_n 2, 65, 0, 0, 0, 0, 0)), (65, (.iload 4, 67, 0, 0, 0, 0, 0)), (67, (.invokevirtual 230, 70, 55, 3, 5, 0, 0)), (70, (.goto 11, 73, 81, 0, 0, 0, 0)), (73, (.aload 5, 75, 0, 0, 0, 0, 0)), (75, (.iload_n 2, 76, 0, 0, 0, 0, 0)), (76, (.iload 4, 78, 0, 0, 0, 0, 0)), (78, (.invokevirtual 233, 81, 56, 3, 5, 0, 0))],
  [(81, (.iconst 1, 82, 0, 0, 0, 1, 0)), (82, (.ireturn, 83, 0, 0, 0, 0, 0))]]
def md_X8_compute : mMd := (yX8_compute, 8, cX8_compute, 6, (some .int), mt_X8_compute)
def mt_X8_copyElements : mTab := [[(0, (.aload_n 0, 1, 0, 0, 0, 0, 0)), (1, (.iload_n 1, 2, 0, 0, 0, 0, 0)), (2, (.invokevirtual 204, 5, 112, 2, 8, 0, 0)), (5, (.astore 6, 7, 0, 0, 0, 0, 0)), (7, (.aload_n 0, 8, 0, 0, 0, 0, 0)), (8, (.iload_n 3, 9, 0, 0, 0, 0, 0)), (9, (.invokevirtual 204, 12, 112, 2, 8, 0, 0)), (12, (.astore 7, 14, 0, 0, 0, 0, 0)), (14, (.aload 6, 16, 0, 0, 0, 0, 0))],
  [(16, (.ifnull 8, 19, 24, 0, 0, 0, 0)), (19, (.aload 7, 21, 0, 0, 0, 0, 0)), (21, (.ifnonnull 5, 24, 26, 0, 0, 0, 0)), (24, (.iconst (-1), 25, 0, 0, 0, (-1), 0)), (25, (.ireturn, 26, 0, 0, 0, 0, 0)), (26, (.aload 6, 28, 0, 0, 0, 0, 0)), (28, (.invokevirtual 213, 31, 48, 1, 5, 0, 0)), (31, (.ifCond .ne 11, 34, 42, 0, 0, 0, 0))],
  [(34, (.aload 7, 36, 0, 0, 0, 0, 0)), (36, (.invokevirtual 213, 39, 48, 1, 5, 0, 0)), (39, (.ifCond .eq 6, 42, 45, 0, 0, 0, 0)), (42, (.bipush (-11), 44, 0, 0, 0, (-11), 0)), (44, (.ireturn, 45, 0, 0, 0, 0, 0)), (45, (.aload 6, 47, 0, 0, 0, 0, 0)), (47, (.getfield 236, 50, 5, 3, 0, 0, 0))],
  [(50, (.aload 7, 52, 0, 0, 0, 0, 0)), (52, (.getfield 236, 55, 5, 3, 0, 0, 0)), (55, (.if_icmp .eq 6, 58, 61, 0, 0, 0, 0)), (58, (.bipush (-12), 60, 0, 0, 0, (-12), 0)), (60, (.ireturn, 61, 0, 0, 0, 0, 0)), (61, (.aload 6, 63, 0, 0, 0, 0, 0)), (63, (.iload_n 2, 64, 0, 0, 0, 0, 0))],
  [(64, (.iload 5, 66, 0, 0, 0, 0, 0)), (66, (.invokevirtual 216, 69, 50, 3, 5, 0, 0)), (69, (.ifCond .eq 15, 72, 84, 0, 0, 0, 0)), (72, (.aload 7, 74, 0, 0, 0, 0, 0)), (74, (.iload 4, 76, 0, 0, 0, 0, 0)), (76, (.iload 5, 78, 0, 0, 0, 0, 0)), (78, (.invokevirtual 216, 81, 50, 3, 5, 0, 0))],
  [(81, (.ifCond .ne 6, 84, 87, 0, 0, 0, 0)), (84, (.bipush (-13), 86, 0, 0, 0, (-13), 0)), (86, (.ireturn, 87, 0, 0, 0, 0, 0)), (87, (.aload 6, 89, 0, 0, 0, 0, 0)), (89, (.iload_n 2, 90, 0, 0, 0, 0, 0)), (90, (.aload 7, 92, 0, 0, 0, 0, 0)), (92, (.iload 4, 94, 0, 0, 0, 0, 0)), (94, (.iload 5, 96, 0, 0, 0, 0, 0))],
  [(96, (.invokevirtual 239, 99, 58, 5, 5, 0, 0)), (99, (.iload 5, 101, 0, 0, 0, 0, 0)), (101, (.ireturn, 102, 0, 0, 0, 0, 0))]]
def md_X8_copyElements : mMd := (yX8_copyElements, 8, cX8_copyElements, 8, (some .int), mt_X8_copyElements)
def mt_X8_replay : mTab := [[(0, (.aload_n 0, 1, 0, 0, 0, 0, 0)), (1, (.iload_n 1, 2, 0, 0, 0, 0, 0)), (2, (.invokevirtual 204, 5, 112, 2, 8, 0, 0)), (5, (.astore 4, 7, 0, 0, 0, 0, 0)), (7, (.aload 4, 9, 0, 0, 0, 0, 0)), (9, (.ifnonnull 5, 12, 14, 0, 0, 0, 0)), (12, (.iconst (-1), 13, 0, 0, 0, (-1), 0)), (13, (.ireturn, 14, 0, 0, 0, 0, 0)), (14, (.aload 4, 16, 0, 0, 0, 0, 0))],
  [(16, (.invokevirtual 213, 19, 48, 1, 5, 0, 0)), (19, (.ifCond .eq 6, 22, 25, 0, 0, 0, 0)), (22, (.bipush (-11), 24, 0, 0, 0, (-11), 0)), (24, (.ireturn, 25, 0, 0, 0, 0, 0)), (25, (.aload 4, 27, 0, 0, 0, 0, 0)), (27, (.getfield 236, 30, 5, 3, 0, 0, 0)), (30, (.ifCond .eq 6, 33, 36, 0, 0, 0, 0))],
  [(33, (.bipush (-12), 35, 0, 0, 0, (-12), 0)), (35, (.ireturn, 36, 0, 0, 0, 0, 0)), (36, (.aload_n 0, 37, 0, 0, 0, 0, 0)), (37, (.getfield 12, 40, 8, 0, 2, 0, 0)), (40, (.iload_n 2, 41, 0, 0, 0, 0, 0)), (41, (.invokevirtual 87, 44, 19, 2, 2, 0, 0)), (44, (.ifCond .ne 6, 47, 50, 0, 0, 0, 0)), (47, (.bipush (-2), 49, 0, 0, 0, (-2), 0))],
  [(49, (.ireturn, 50, 0, 0, 0, 0, 0)), (50, (.iload_n 3, 51, 0, 0, 0, 0, 0)), (51, (.invokestatic 131, 54, 111, 1, 0, 0, 0)), (54, (.ifCond .eq 14, 57, 68, 0, 0, 0, 0)), (57, (.aload_n 0, 58, 0, 0, 0, 0, 0)), (58, (.getfield 12, 61, 8, 0, 2, 0, 0)), (61, (.iload_n 2, 62, 0, 0, 0, 0, 0)), (62, (.invokevirtual 148, 65, 23, 2, 2, 0, 0))],
  [(65, (.ifCond .ne 5, 68, 70, 0, 0, 0, 0)), (68, (.iconst (-1), 69, 0, 0, 0, (-1), 0)), (69, (.ireturn, 70, 0, 0, 0, 0, 0)), (70, (.aload_n 0, 71, 0, 0, 0, 0, 0)), (71, (.getfield 44, 74, 8, 4, 2, 0, 0)), (74, (.iload_n 2, 75, 0, 0, 0, 0, 0)), (75, (.iload_n 3, 76, 0, 0, 0, 0, 0)), (76, (.iconst 0, 77, 0, 0, 0, 0, 0)), (77, (.invokevirtual 151, 80, 14, 4, 1, 0, 0))],
  [(80, (.aload_n 0, 81, 0, 0, 0, 0, 0)), (81, (.aload 4, 83, 0, 0, 0, 0, 0)), (83, (.invokevirtual 243, 86, 110, 2, 8, 0, 0)), (86, (.ireturn, 87, 0, 0, 0, 0, 0))]]
def md_X8_replay : mMd := (yX8_replay, 8, cX8_replay, 5, (some .int), mt_X8_replay)
def mt_X8_playStored : mTab := [[(0, (.iconst 0, 1, 0, 0, 0, 0, 0)), (1, (.istore_n 2, 2, 0, 0, 0, 0, 0)), (2, (.iload_n 2, 3, 0, 0, 0, 0, 0)), (3, (.iconst 1, 4, 0, 0, 0, 1, 0)), (4, (.iadd, 5, 0, 0, 0, 0, 0)), (5, (.aload_n 1, 6, 0, 0, 0, 0, 0)), (6, (.getfield 247, 9, 5, 4, 0, 0, 0)), (9, (.if_icmp .ge 62, 12, 71, 0, 0, 0, 0)), (12, (.aload_n 0, 13, 0, 0, 0, 0, 0)), (13, (.getfield 44, 16, 8, 4, 2, 0, 0))],
  [(16, (.aload_n 1, 17, 0, 0, 0, 0, 0)), (17, (.iload_n 2, 18, 0, 0, 0, 0, 0)), (18, (.invokevirtual 223, 21, 54, 2, 5, 0, 0)), (21, (.l2i, 22, 0, 0, 0, 0, 0)), (22, (.aload_n 1, 23, 0, 0, 0, 0, 0)), (23, (.iload_n 2, 24, 0, 0, 0, 0, 0)), (24, (.iconst 1, 25, 0, 0, 0, 1, 0)), (25, (.iadd, 26, 0, 0, 0, 0, 0)), (26, (.invokevirtual 223, 29, 54, 2, 5, 0, 0)), (29, (.l2i, 30, 0, 0, 0, 0, 0)), (30, (.invokevirtual 185, 33, 15, 3, 1, 0, 0))],
  [(33, (.istore_n 3, 34, 0, 0, 0, 0, 0)), (34, (.iload_n 3, 35, 0, 0, 0, 0, 0)), (35, (.sipush 1000, 38, 0, 0, 0, 1000, 0)), (38, (.if_icmp .ne 15, 41, 53, 0, 0, 0, 0)), (41, (.aload_n 0, 42, 0, 0, 0, 0, 0)), (42, (.getfield 44, 45, 8, 4, 2, 0, 0)), (45, (.getfield 191, 48, 1, 3, 0, 0, 0))],
  [(48, (.sipush 1000, 51, 0, 0, 0, 1000, 0)), (51, (.iadd, 52, 0, 0, 0, 0, 0)), (52, (.ireturn, 53, 0, 0, 0, 0, 0)), (53, (.iload_n 3, 54, 0, 0, 0, 0, 0)), (54, (.ifCond .ge 11, 57, 65, 0, 0, 0, 0)), (57, (.aload_n 0, 58, 0, 0, 0, 0, 0)), (58, (.getfield 44, 61, 8, 4, 2, 0, 0)), (61, (.getfield 191, 64, 1, 3, 0, 0, 0))],
  [(64, (.ireturn, 65, 0, 0, 0, 0, 0)), (65, (.iinc 2 2, 68, 0, 0, 0, 2, 0)), (68, (.goto (-66), 71, 2, 0, 0, 0, 0)), (71, (.aload_n 0, 72, 0, 0, 0, 0, 0)), (72, (.getfield 44, 75, 8, 4, 2, 0, 0)), (75, (.getfield 191, 78, 1, 3, 0, 0, 0)), (78, (.ireturn, 79, 0, 0, 0, 0, 0))]]
def md_X8_playStored : mMd := (yX8_playStored, 8, cX8_playStored, 4, (some .int), mt_X8_playStored)
def mt_X8_isManner : mTab := [[(0, (.iload_n 0, 1, 0, 0, 0, 0, 0)), (1, (.ifCond .eq 8, 4, 9, 0, 0, 0, 0)), (4, (.iload_n 0, 5, 0, 0, 0, 0, 0)), (5, (.iconst 1, 6, 0, 0, 0, 1, 0)), (6, (.if_icmp .ne 7, 9, 13, 0, 0, 0, 0)), (9, (.iconst 1, 10, 0, 0, 0, 1, 0)), (10, (.goto 4, 13, 14, 0, 0, 0, 0)), (13, (.iconst 0, 14, 0, 0, 0, 0, 0)), (14, (.ireturn, 15, 0, 0, 0, 0, 0))]]
def md_X8_isManner : mMd := (yX8_isManner, 8, cX8_isManner, 1, (some .boolean), mt_X8_isManner)
def mt_X8_slotAt : mTab := [[(0, (.iload_n 1, 1, 0, 0, 0, 0, 0)), (1, (.ifCond .lt 21, 4, 22, 0, 0, 0, 0)), (4, (.iload_n 1, 5, 0, 0, 0, 0, 0)), (5, (.aload_n 0, 6, 0, 0, 0, 0, 0)), (6, (.getfield 57, 9, 8, 6, 2, 0, 0)), (9, (.arraylength, 10, 0, 0, 0, 0, 0)), (10, (.if_icmp .ge 12, 13, 22, 0, 0, 0, 0)), (13, (.aload_n 0, 14, 0, 0, 0, 0, 0)), (14, (.getfield 57, 17, 8, 6, 2, 0, 0))],
  [(17, (.iload_n 1, 18, 0, 0, 0, 0, 0)), (18, (.aaload, 19, 0, 0, 0, 0, 0)), (19, (.goto 4, 22, 23, 0, 0, 0, 0)), (22, (.aconst_null, 23, 0, 0, 0, 0, 0)), (23, (.areturn, 24, 0, 0, 0, 0, 0))]]
def md_X8_slotAt : mMd := (yX8_slotAt, 8, cX8_slotAt, 2, (some (.object "DialogueGames$Slot")), mt_X8_slotAt)
def mt_X8_rankIn : mTab := [[(0, (.aload_n 0, 1, 0, 0, 0, 0, 0)), (1, (.getfield 51, 4, 8, 5, 2, 0, 0)), (4, (.iload_n 1, 5, 0, 0, 0, 0, 0)), (5, (.iload_n 2, 6, 0, 0, 0, 0, 0)), (6, (.invokevirtual 137, 9, 34, 3, 4, 0, 0)), (9, (.aload_n 0, 10, 0, 0, 0, 0, 0)), (10, (.getfield 51, 13, 8, 5, 2, 0, 0)), (13, (.invokevirtual 141, 16, 37, 1, 4, 0, 0))],
  [(16, (.ifCond .ne 6, 19, 22, 0, 0, 0, 0)), (19, (.bipush (-6), 21, 0, 0, 0, (-6), 0)), (21, (.ireturn, 22, 0, 0, 0, 0, 0)), (22, (.aload_n 0, 23, 0, 0, 0, 0, 0)), (23, (.getfield 51, 26, 8, 5, 2, 0, 0)), (26, (.invokevirtual 248, 29, 42, 1, 4, 0, 0)), (29, (.aload_n 0, 30, 0, 0, 0, 0, 0)), (30, (.getfield 51, 33, 8, 5, 2, 0, 0))],
  [(33, (.invokevirtual 251, 36, 45, 1, 4, 0, 0)), (36, (.istore_n 3, 37, 0, 0, 0, 0, 0)), (37, (.iload_n 3, 38, 0, 0, 0, 0, 0)), (38, (.ifCond .ne 8, 41, 46, 0, 0, 0, 0)), (41, (.bipush (-5), 43, 0, 0, 0, (-5), 0)), (43, (.goto 4, 46, 47, 0, 0, 0, 0)), (46, (.iload_n 3, 47, 0, 0, 0, 0, 0)), (47, (.ireturn, 48, 0, 0, 0, 0, 0))]]
def md_X8_rankIn : mMd := (yX8_rankIn, 8, cX8_rankIn, 4, (some .int), mt_X8_rankIn)
def mt_X8_presentRank : mTab := [[(0, (.aload_n 0, 1, 0, 0, 0, 0, 0)), (1, (.getfield 44, 4, 8, 4, 2, 0, 0)), (4, (.invokevirtual 164, 7, 12, 1, 1, 0, 0)), (7, (.ifCond .ne 6, 10, 13, 0, 0, 0, 0)), (10, (.bipush (-7), 12, 0, 0, 0, (-7), 0)), (12, (.ireturn, 13, 0, 0, 0, 0, 0)), (13, (.aload_n 0, 14, 0, 0, 0, 0, 0)), (14, (.getfield 44, 17, 8, 4, 2, 0, 0))],
  [(17, (.getfield 155, 20, 1, 0, 2, 0, 0)), (20, (.astore_n 1, 21, 0, 0, 0, 0, 0)), (21, (.aload_n 0, 22, 0, 0, 0, 0, 0)), (22, (.getfield 51, 25, 8, 5, 2, 0, 0)), (25, (.aload_n 1, 26, 0, 0, 0, 0, 0)), (26, (.getfield 167, 29, 0, 5, 1, 0, 0)), (29, (.aload_n 1, 30, 0, 0, 0, 0, 0)), (30, (.getfield 171, 33, 0, 6, 1, 0, 0))],
  [(33, (.aload_n 1, 34, 0, 0, 0, 0, 0)), (34, (.getfield 254, 37, 0, 4, 0, 0, 0)), (37, (.invokevirtual 257, 40, 35, 4, 4, 0, 0)), (40, (.aload_n 0, 41, 0, 0, 0, 0, 0)), (41, (.getfield 51, 44, 8, 5, 2, 0, 0)), (44, (.invokevirtual 141, 47, 37, 1, 4, 0, 0)), (47, (.ifCond .ne 6, 50, 53, 0, 0, 0, 0))],
  [(50, (.bipush (-6), 52, 0, 0, 0, (-6), 0)), (52, (.ireturn, 53, 0, 0, 0, 0, 0)), (53, (.aload_n 0, 54, 0, 0, 0, 0, 0)), (54, (.getfield 51, 57, 8, 5, 2, 0, 0)), (57, (.invokevirtual 248, 60, 42, 1, 4, 0, 0)), (60, (.aload_n 0, 61, 0, 0, 0, 0, 0)), (61, (.getfield 51, 64, 8, 5, 2, 0, 0))],
  [(64, (.invokevirtual 251, 67, 45, 1, 4, 0, 0)), (67, (.ireturn, 68, 0, 0, 0, 0, 0))]]
def md_X8_presentRank : mMd := (yX8_presentRank, 8, cX8_presentRank, 2, (some .int), mt_X8_presentRank)
def mt_X8_rankAfter : mTab := [[(0, (.aload_n 0, 1, 0, 0, 0, 0, 0)), (1, (.getfield 44, 4, 8, 4, 2, 0, 0)), (4, (.getfield 155, 7, 1, 0, 2, 0, 0)), (7, (.astore_n 3, 8, 0, 0, 0, 0, 0)), (8, (.aload_n 3, 9, 0, 0, 0, 0, 0)), (9, (.iload_n 1, 10, 0, 0, 0, 0, 0)), (10, (.iload_n 2, 11, 0, 0, 0, 0, 0)), (11, (.invokevirtual 261, 14, 7, 3, 0, 0, 0)), (14, (.aload_n 0, 15, 0, 0, 0, 0, 0)), (15, (.getfield 51, 18, 8, 5, 2, 0, 0))],
  [(18, (.aload_n 3, 19, 0, 0, 0, 0, 0)), (19, (.getfield 264, 22, 0, 7, 1, 0, 0)), (22, (.aload_n 3, 23, 0, 0, 0, 0, 0)), (23, (.getfield 267, 26, 0, 8, 1, 0, 0)), (26, (.invokevirtual 270, 29, 46, 3, 4, 0, 0)), (29, (.ireturn, 30, 0, 0, 0, 0, 0))]]
def md_X8_rankAfter : mMd := (yX8_rankAfter, 8, cX8_rankAfter, 4, (some .int), mt_X8_rankAfter)
def mt_X8_longestAfter : mTab := [[(0, (.iconst 0, 1, 0, 0, 0, 0, 0)), (1, (.istore_n 2, 2, 0, 0, 0, 0, 0)), (2, (.aload_n 0, 3, 0, 0, 0, 0, 0)), (3, (.getfield 44, 6, 8, 4, 2, 0, 0)), (6, (.getfield 155, 9, 1, 0, 2, 0, 0)), (9, (.iload_n 1, 10, 0, 0, 0, 0, 0)), (10, (.invokevirtual 176, 13, 6, 2, 0, 0, 0)), (13, (.istore_n 3, 14, 0, 0, 0, 0, 0)), (14, (.iconst 0, 15, 0, 0, 0, 0, 0)), (15, (.istore 4, 17, 0, 0, 0, 0, 0))],
  [(17, (.iload 4, 19, 0, 0, 0, 0, 0)), (19, (.iload_n 3, 20, 0, 0, 0, 0, 0)), (20, (.if_icmp .ge 33, 23, 53, 0, 0, 0, 0)), (23, (.aload_n 0, 24, 0, 0, 0, 0, 0)), (24, (.iload_n 1, 25, 0, 0, 0, 0, 0)), (25, (.iload 4, 27, 0, 0, 0, 0, 0)), (27, (.invokevirtual 201, 30, 115, 3, 8, 0, 0)), (30, (.istore 5, 32, 0, 0, 0, 0, 0))],
  [(32, (.iload 5, 34, 0, 0, 0, 0, 0)), (34, (.ifCond .ne 6, 37, 40, 0, 0, 0, 0)), (37, (.bipush (-5), 39, 0, 0, 0, (-5), 0)), (39, (.ireturn, 40, 0, 0, 0, 0, 0)), (40, (.iload_n 2, 41, 0, 0, 0, 0, 0)), (41, (.iload 5, 43, 0, 0, 0, 0, 0)), (43, (.invokestatic 274, 46, 193, 2, 0, 0, 0)), (46, (.istore_n 2, 47, 0, 0, 0, 0, 0)), (47, (.iinc 4 1, 50, 0, 0, 0, 1, 0))],
  [(50, (.goto (-33), 53, 17, 0, 0, 0, 0)), (53, (.iload_n 2, 54, 0, 0, 0, 0, 0)), (54, (.ireturn, 55, 0, 0, 0, 0, 0))]]
def md_X8_longestAfter : mMd := (yX8_longestAfter, 8, cX8_longestAfter, 6, (some .int), mt_X8_longestAfter)
def mt_X9_init : mTab := [[(0, (.aload_n 0, 1, 0, 0, 0, 0, 0)), (1, (.invokespecial 3, 4, 1010, 1, 0, 0, 0)), (4, (.aload_n 0, 5, 0, 0, 0, 0, 0)), (5, (.iconst 4, 6, 0, 0, 0, 4, 0)), (6, (.putfield 9, 9, 9, 0, 0, 0, 0)), (9, (.aload_n 0, 10, 0, 0, 0, 0, 0)), (10, (.bipush 40, 12, 0, 0, 0, 40, 0)), (12, (.newarray .int, 14, 100, 0, 0, 0, 0)), (14, (.putfield 15, 17, 9, 1, 12, 0, 0))],
  [(17, (.aload_n 0, 18, 0, 0, 0, 0, 0)), (18, (.bipush 40, 20, 0, 0, 0, 40, 0)), (20, (.newarray .int, 22, 100, 0, 0, 0, 0)), (22, (.putfield 19, 25, 9, 2, 12, 0, 0)), (25, (.aload_n 0, 26, 0, 0, 0, 0, 0)), (26, (.bipush 40, 28, 0, 0, 0, 40, 0)), (28, (.newarray .int, 30, 100, 0, 0, 0, 0)), (30, (.putfield 22, 33, 9, 3, 12, 0, 0))],
  [(33, (.aload_n 0, 34, 0, 0, 0, 0, 0)), (34, (.bipush 40, 36, 0, 0, 0, 40, 0)), (36, (.newarray .int, 38, 100, 0, 0, 0, 0)), (38, (.putfield 25, 41, 9, 5, 12, 0, 0)), (41, (.aload_n 0, 42, 0, 0, 0, 0, 0)), (42, (.bipush 40, 44, 0, 0, 0, 40, 0)), (44, (.newarray .int, 46, 100, 0, 0, 0, 0)), (46, (.putfield 28, 49, 9, 11, 12, 0, 0))],
  [(49, (.aload_n 0, 50, 0, 0, 0, 0, 0)), (50, (.bipush 40, 52, 0, 0, 0, 40, 0)), (52, (.newarray .int, 54, 100, 0, 0, 0, 0)), (54, (.putfield 31, 57, 9, 12, 12, 0, 0)), (57, (.aload_n 0, 58, 0, 0, 0, 0, 0)), (58, (.bipush 40, 60, 0, 0, 0, 40, 0)), (60, (.newarray .long, 62, 101, 0, 0, 0, 0)), (62, (.putfield 34, 65, 9, 13, 12, 0, 0))],
  [(65, (.aload_n 0, 66, 0, 0, 0, 0, 0)), (66, (.bipush 40, 68, 0, 0, 0, 40, 0)), (68, (.newarray .int, 70, 100, 0, 0, 0, 0)), (70, (.putfield 38, 73, 9, 14, 12, 0, 0)), (73, (.aload_n 0, 74, 0, 0, 0, 0, 0)), (74, (.sipush 301, 77, 0, 0, 0, 301, 0)), (77, (.newarray .long, 79, 101, 0, 0, 0, 0)), (79, (.putfield 41, 82, 9, 20, 12, 0, 0))],
  [(82, (.aload_n 0, 83, 0, 0, 0, 0, 0)), (83, (.sipush 301, 86, 0, 0, 0, 301, 0)), (86, (.newarray .long, 88, 101, 0, 0, 0, 0)), (88, (.putfield 44, 91, 9, 21, 12, 0, 0)), (91, (.aload_n 0, 92, 0, 0, 0, 0, 0)), (92, (.sipush 301, 95, 0, 0, 0, 301, 0)), (95, (.newarray .int, 97, 100, 0, 0, 0, 0))],
  [(97, (.putfield 47, 100, 9, 22, 12, 0, 0)), (100, (.aload_n 0, 101, 0, 0, 0, 0, 0)), (101, (.bipush 21, 103, 0, 0, 0, 21, 0)), (103, (.newarray .long, 105, 101, 0, 0, 0, 0)), (105, (.putfield 50, 108, 9, 27, 12, 0, 0)), (108, (.aload_n 0, 109, 0, 0, 0, 0, 0)), (109, (.bipush 21, 111, 0, 0, 0, 21, 0)), (111, (.newarray .long, 113, 101, 0, 0, 0, 0))],
  [(113, (.putfield 53, 116, 9, 28, 12, 0, 0)), (116, (.aload_n 0, 117, 0, 0, 0, 0, 0)), (117, (.iconst 4, 118, 0, 0, 0, 4, 0)), (118, (.newarray .int, 120, 100, 0, 0, 0, 0)), (120, (.dup, 121, 0, 0, 0, 0, 0)), (121, (.iconst 0, 122, 0, 0, 0, 0, 0)), (122, (.iconst (-1), 123, 0, 0, 0, (-1), 0)), (123, (.iastore, 124, 0, 0, 0, 0, 0)), (124, (.dup, 125, 0, 0, 0, 0, 0)), (125, (.iconst 1, 126, 0, 0, 0, 1, 0)), (126, (.iconst (-1), 127, 0, 0, 0, (-1), 0)), (127, (.iastore, 128, 0, 0, 0, 0, 0))],
  [(128, (.dup, 129, 0, 0, 0, 0, 0)), (129, (.iconst 2, 130, 0, 0, 0, 2, 0)), (130, (.iconst (-1), 131, 0, 0, 0, (-1), 0)), (131, (.iastore, 132, 0, 0, 0, 0, 0)), (132, (.dup, 133, 0, 0, 0, 0, 0)), (133, (.iconst 3, 134, 0, 0, 0, 3, 0)), (134, (.iconst (-1), 135, 0, 0, 0, (-1), 0)), (135, (.iastore, 136, 0, 0, 0, 0, 0)), (136, (.putfield 56, 139, 9, 29, 12, 0, 0)), (139, (.aload_n 0, 140, 0, 0, 0, 0, 0)), (140, (.iconst 4, 141, 0, 0, 0, 4, 0)), (141, (.newarray .int, 143, 100, 0, 0, 0, 0)), (143, (.putfield 59, 146, 9, 30, 12, 0, 0))],
  [(146, (.aload_n 0, 147, 0, 0, 0, 0, 0)), (147, (.sipush 160, 150, 0, 0, 0, 160, 0)), (150, (.newarray .long, 152, 101, 0, 0, 0, 0)), (152, (.putfield 62, 155, 9, 31, 12, 0, 0)), (155, (.aload_n 0, 156, 0, 0, 0, 0, 0)), (156, (.sipush 160, 159, 0, 0, 0, 160, 0)), (159, (.newarray .double, 161, 102, 0, 0, 0, 0))],
  [(161, (.putfield 65, 164, 9, 32, 12, 0, 0)), (164, (.aload_n 0, 165, 0, 0, 0, 0, 0)), (165, (.bipush 40, 167, 0, 0, 0, 40, 0)), (167, (.newarray .long, 169, 101, 0, 0, 0, 0)), (169, (.putfield 69, 172, 9, 33, 12, 0, 0)), (172, (.aload_n 0, 173, 0, 0, 0, 0, 0)), (173, (.bipush 40, 175, 0, 0, 0, 40, 0)), (175, (.newarray .double, 177, 102, 0, 0, 0, 0))],
  [(177, (.putfield 72, 180, 9, 34, 12, 0, 0)), (180, (.return_, 181, 0, 0, 0, 0, 0))]]
def md_X9_init : mMd := (yX9_init, 9, cX9_init, 1, (none : Option Jvm.ClassFile.FieldType), mt_X9_init)
def mt_X9_isIn : mTab := [[(0, (.iload_n 0, 1, 0, 0, 0, 0, 0)), (1, (.iload_n 1, 2, 0, 0, 0, 0, 0)), (2, (.if_icmp .lt 12, 5, 14, 0, 0, 0, 0)), (5, (.iload_n 0, 6, 0, 0, 0, 0, 0)), (6, (.iload_n 2, 7, 0, 0, 0, 0, 0)), (7, (.if_icmp .gt 7, 10, 14, 0, 0, 0, 0)), (10, (.iconst 1, 11, 0, 0, 0, 1, 0)), (11, (.goto 4, 14, 15, 0, 0, 0, 0)), (14, (.iconst 0, 15, 0, 0, 0, 0, 0)), (15, (.ireturn, 16, 0, 0, 0, 0, 0))]]
def md_X9_isIn : mMd := (yX9_isIn, 9, cX9_isIn, 3, (some .boolean), mt_X9_isIn)
def mt_X9_isFormula : mTab := [[(0, (.iload_n 1, 1, 0, 0, 0, 0, 0)), (1, (.iconst 0, 2, 0, 0, 0, 0, 0)), (2, (.aload_n 0, 3, 0, 0, 0, 0, 0)), (3, (.getfield 9, 6, 9, 0, 0, 0, 0)), (6, (.iconst 1, 7, 0, 0, 0, 1, 0)), (7, (.isub, 8, 0, 0, 0, 0, 0)), (8, (.invokestatic 75, 11, 118, 3, 0, 0, 0)), (11, (.ireturn, 12, 0, 0, 0, 0, 0))]]
def md_X9_isFormula : mMd := (yX9_isFormula, 9, cX9_isFormula, 2, (some .boolean), mt_X9_isFormula)
def mt_X9_make : mTab := [[(0, (.iconst 4, 1, 0, 0, 0, 4, 0)), (1, (.istore 4, 3, 0, 0, 0, 0, 0)), (3, (.iload 4, 5, 0, 0, 0, 0, 0)), (5, (.aload_n 0, 6, 0, 0, 0, 0, 0)), (6, (.getfield 9, 9, 9, 0, 0, 0, 0)), (9, (.if_icmp .ge 45, 12, 54, 0, 0, 0, 0)), (12, (.aload_n 0, 13, 0, 0, 0, 0, 0)), (13, (.getfield 15, 16, 9, 1, 2, 0, 0))],
  [(16, (.iload 4, 18, 0, 0, 0, 0, 0)), (18, (.iaload, 19, 0, 0, 0, 0, 0)), (19, (.iload_n 1, 20, 0, 0, 0, 0, 0)), (20, (.if_icmp .ne 28, 23, 48, 0, 0, 0, 0)), (23, (.aload_n 0, 24, 0, 0, 0, 0, 0)), (24, (.getfield 19, 27, 9, 2, 2, 0, 0)), (27, (.iload 4, 29, 0, 0, 0, 0, 0)), (29, (.iaload, 30, 0, 0, 0, 0, 0)), (30, (.iload_n 2, 31, 0, 0, 0, 0, 0)), (31, (.if_icmp .ne 17, 34, 48, 0, 0, 0, 0))],
  [(34, (.aload_n 0, 35, 0, 0, 0, 0, 0)), (35, (.getfield 22, 38, 9, 3, 2, 0, 0)), (38, (.iload 4, 40, 0, 0, 0, 0, 0)), (40, (.iaload, 41, 0, 0, 0, 0, 0)), (41, (.iload_n 3, 42, 0, 0, 0, 0, 0)), (42, (.if_icmp .ne 6, 45, 48, 0, 0, 0, 0)), (45, (.iload 4, 47, 0, 0, 0, 0, 0)), (47, (.ireturn, 48, 0, 0, 0, 0, 0))],
  [(48, (.iinc 4 1, 51, 0, 0, 0, 1, 0)), (51, (.goto (-48), 54, 3, 0, 0, 0, 0)), (54, (.aload_n 0, 55, 0, 0, 0, 0, 0)), (55, (.getfield 79, 58, 9, 4, 3, 0, 0)), (58, (.ifCond .ne 12, 61, 70, 0, 0, 0, 0)), (61, (.aload_n 0, 62, 0, 0, 0, 0, 0)), (62, (.getfield 9, 65, 9, 0, 0, 0, 0))],
  [(65, (.bipush 40, 67, 0, 0, 0, 40, 0)), (67, (.if_icmp .ne 10, 70, 77, 0, 0, 0, 0)), (70, (.aload_n 0, 71, 0, 0, 0, 0, 0)), (71, (.iconst 1, 72, 0, 0, 0, 1, 0)), (72, (.putfield 79, 75, 9, 4, 3, 0, 0)), (75, (.iconst 0, 76, 0, 0, 0, 0, 0)), (76, (.ireturn, 77, 0, 0, 0, 0, 0)), (77, (.aload_n 0, 78, 0, 0, 0, 0, 0)), (78, (.getfield 15, 81, 9, 1, 2, 0, 0))],
  [(81, (.aload_n 0, 82, 0, 0, 0, 0, 0)), (82, (.getfield 9, 85, 9, 0, 0, 0, 0)), (85, (.iload_n 1, 86, 0, 0, 0, 0, 0)), (86, (.iastore, 87, 0, 0, 0, 0, 0)), (87, (.aload_n 0, 88, 0, 0, 0, 0, 0)), (88, (.getfield 19, 91, 9, 2, 2, 0, 0)), (91, (.aload_n 0, 92, 0, 0, 0, 0, 0)), (92, (.getfield 9, 95, 9, 0, 0, 0, 0)), (95, (.iload_n 2, 96, 0, 0, 0, 0, 0))],
  [(96, (.iastore, 97, 0, 0, 0, 0, 0)), (97, (.aload_n 0, 98, 0, 0, 0, 0, 0)), (98, (.getfield 22, 101, 9, 3, 2, 0, 0)), (101, (.aload_n 0, 102, 0, 0, 0, 0, 0)), (102, (.getfield 9, 105, 9, 0, 0, 0, 0)), (105, (.iload_n 3, 106, 0, 0, 0, 0, 0)), (106, (.iastore, 107, 0, 0, 0, 0, 0)), (107, (.aload_n 0, 108, 0, 0, 0, 0, 0)), (108, (.dup, 109, 0, 0, 0, 0, 0)), (109, (.getfield 9, 112, 9, 0, 0, 0, 0))],
  [(112, (.iconst 1, 113, 0, 0, 0, 1, 0)), (113, (.iadd, 114, 0, 0, 0, 0, 0)), (114, (.putfield 9, 117, 9, 0, 0, 0, 0)), (117, (.aload_n 0, 118, 0, 0, 0, 0, 0)), (118, (.getfield 9, 121, 9, 0, 0, 0, 0)), (121, (.iconst 1, 122, 0, 0, 0, 1, 0)), (122, (.isub, 123, 0, 0, 0, 0, 0)), (123, (.ireturn, 124, 0, 0, 0, 0, 0))]]
def md_X9_make : mMd := (yX9_make, 9, cX9_make, 5, (some .int), mt_X9_make)
def mt_X9_settled : mTab := [[(0, (.aload_n 0, 1, 0, 0, 0, 0, 0)), (1, (.getfield 79, 4, 9, 4, 3, 0, 0)), (4, (.ifCond .eq 11, 7, 15, 0, 0, 0, 0)), (7, (.aload_n 0, 8, 0, 0, 0, 0, 0)), (8, (.iload_n 1, 9, 0, 0, 0, 0, 0)), (9, (.putfield 9, 12, 9, 0, 0, 0, 0)), (12, (.bipush (-3), 14, 0, 0, 0, (-3), 0)), (14, (.ireturn, 15, 0, 0, 0, 0, 0)), (15, (.iload_n 2, 16, 0, 0, 0, 0, 0))],
  [(16, (.ireturn, 17, 0, 0, 0, 0, 0))]]
def md_X9_settled : mMd := (yX9_settled, 9, cX9_settled, 3, (some .int), mt_X9_settled)
def mt_X9_reset : mTab := [[(0, (.aload_n 0, 1, 0, 0, 0, 0, 0)), (1, (.getfield 9, 4, 9, 0, 0, 0, 0)), (4, (.istore_n 1, 5, 0, 0, 0, 0, 0)), (5, (.aload_n 0, 6, 0, 0, 0, 0, 0)), (6, (.iconst 4, 7, 0, 0, 0, 4, 0)), (7, (.putfield 9, 10, 9, 0, 0, 0, 0)), (10, (.aload_n 0, 11, 0, 0, 0, 0, 0)), (11, (.iconst 0, 12, 0, 0, 0, 0, 0)), (12, (.putfield 83, 15, 9, 24, 3, 0, 0)), (15, (.iload_n 1, 16, 0, 0, 0, 0, 0))],
  [(16, (.ireturn, 17, 0, 0, 0, 0, 0))]]
def md_X9_reset : mMd := (yX9_reset, 9, cX9_reset, 2, (some .int), mt_X9_reset)
def mt_X9_formulaCount : mTab := [[(0, (.aload_n 0, 1, 0, 0, 0, 0, 0)), (1, (.getfield 9, 4, 9, 0, 0, 0, 0)), (4, (.ireturn, 5, 0, 0, 0, 0, 0))]]
def md_X9_formulaCount : mMd := (yX9_formulaCount, 9, cX9_formulaCount, 1, (some .int), mt_X9_formulaCount)
def mt_X9_append : mTab := [[(0, (.iload_n 1, 1, 0, 0, 0, 0, 0)), (1, (.iconst 0, 2, 0, 0, 0, 0, 0)), (2, (.bipush 127, 4, 0, 0, 0, 127, 0)), (4, (.invokestatic 75, 7, 118, 3, 0, 0, 0)), (7, (.ifCond .eq 13, 10, 20, 0, 0, 0, 0)), (10, (.iload_n 2, 11, 0, 0, 0, 0, 0)), (11, (.iconst 1, 12, 0, 0, 0, 1, 0)), (12, (.bipush 40, 14, 0, 0, 0, 40, 0)), (14, (.invokestatic 75, 17, 118, 3, 0, 0, 0))],
  [(17, (.ifCond .ne 5, 20, 22, 0, 0, 0, 0)), (20, (.iconst (-1), 21, 0, 0, 0, (-1), 0)), (21, (.ireturn, 22, 0, 0, 0, 0, 0)), (22, (.aload_n 0, 23, 0, 0, 0, 0, 0)), (23, (.getfield 86, 26, 9, 6, 0, 0, 0)), (26, (.iload_n 2, 27, 0, 0, 0, 0, 0)), (27, (.iadd, 28, 0, 0, 0, 0, 0)), (28, (.bipush 40, 30, 0, 0, 0, 40, 0)), (30, (.if_icmp .le 6, 33, 36, 0, 0, 0, 0))],
  [(33, (.bipush (-3), 35, 0, 0, 0, (-3), 0)), (35, (.ireturn, 36, 0, 0, 0, 0, 0)), (36, (.iconst 0, 37, 0, 0, 0, 0, 0)), (37, (.istore_n 3, 38, 0, 0, 0, 0, 0)), (38, (.iload_n 3, 39, 0, 0, 0, 0, 0)), (39, (.iload_n 2, 40, 0, 0, 0, 0, 0)), (40, (.if_icmp .ge 29, 43, 69, 0, 0, 0, 0)), (43, (.aload_n 0, 44, 0, 0, 0, 0, 0)), (44, (.getfield 25, 47, 9, 5, 2, 0, 0)), (47, (.aload_n 0, 48, 0, 0, 0, 0, 0))],
  [(48, (.getfield 86, 51, 9, 6, 0, 0, 0)), (51, (.iload_n 1, 52, 0, 0, 0, 0, 0)), (52, (.iastore, 53, 0, 0, 0, 0, 0)), (53, (.aload_n 0, 54, 0, 0, 0, 0, 0)), (54, (.dup, 55, 0, 0, 0, 0, 0)), (55, (.getfield 86, 58, 9, 6, 0, 0, 0)), (58, (.iconst 1, 59, 0, 0, 0, 1, 0)), (59, (.iadd, 60, 0, 0, 0, 0, 0)), (60, (.putfield 86, 63, 9, 6, 0, 0, 0)), (63, (.iinc 3 1, 66, 0, 0, 0, 1, 0))],
  [(66, (.goto (-28), 69, 38, 0, 0, 0, 0)), (69, (.aload_n 0, 70, 0, 0, 0, 0, 0)), (70, (.getfield 86, 73, 9, 6, 0, 0, 0)), (73, (.ireturn, 74, 0, 0, 0, 0, 0))]]
def md_X9_append : mMd := (yX9_append, 9, cX9_append, 4, (some .int), mt_X9_append)
def mt_X9_clearInput : mTab := [[(0, (.aload_n 0, 1, 0, 0, 0, 0, 0)), (1, (.getfield 86, 4, 9, 6, 0, 0, 0)), (4, (.istore_n 1, 5, 0, 0, 0, 0, 0)), (5, (.aload_n 0, 6, 0, 0, 0, 0, 0)), (6, (.iconst 0, 7, 0, 0, 0, 0, 0)), (7, (.putfield 86, 10, 9, 6, 0, 0, 0)), (10, (.iload_n 1, 11, 0, 0, 0, 0, 0)), (11, (.ireturn, 12, 0, 0, 0, 0, 0))]]
def md_X9_clearInput : mMd := (yX9_clearInput, 9, cX9_clearInput, 2, (some .int), mt_X9_clearInput)
def mt_X9_goes : mTab := [[(0, (.aload_n 0, 1, 0, 0, 0, 0, 0)), (1, (.getfield 89, 4, 9, 9, 0, 0, 0)), (4, (.ifCond .ge 31, 7, 35, 0, 0, 0, 0)), (7, (.aload_n 0, 8, 0, 0, 0, 0, 0)), (8, (.getfield 92, 11, 9, 7, 0, 0, 0)), (11, (.aload_n 0, 12, 0, 0, 0, 0, 0)), (12, (.getfield 95, 15, 9, 8, 0, 0, 0)), (15, (.if_icmp .ge 20, 18, 35, 0, 0, 0, 0))],
  [(18, (.aload_n 0, 19, 0, 0, 0, 0, 0)), (19, (.getfield 25, 22, 9, 5, 2, 0, 0)), (22, (.aload_n 0, 23, 0, 0, 0, 0, 0)), (23, (.getfield 92, 26, 9, 7, 0, 0, 0)), (26, (.iaload, 27, 0, 0, 0, 0, 0)), (27, (.iload_n 1, 28, 0, 0, 0, 0, 0)), (28, (.if_icmp .ne 7, 31, 35, 0, 0, 0, 0)), (31, (.iconst 1, 32, 0, 0, 0, 1, 0))],
  [(32, (.goto 4, 35, 36, 0, 0, 0, 0)), (35, (.iconst 0, 36, 0, 0, 0, 0, 0)), (36, (.istore_n 2, 37, 0, 0, 0, 0, 0)), (37, (.aload_n 0, 38, 0, 0, 0, 0, 0)), (38, (.dup, 39, 0, 0, 0, 0, 0)), (39, (.getfield 92, 42, 9, 7, 0, 0, 0)), (42, (.iload_n 2, 43, 0, 0, 0, 0, 0)), (43, (.ifCond .eq 7, 46, 50, 0, 0, 0, 0)), (46, (.iconst 1, 47, 0, 0, 0, 1, 0)), (47, (.goto 4, 50, 51, 0, 0, 0, 0))],
  [(50, (.iconst 0, 51, 0, 0, 0, 0, 0)), (51, (.iadd, 52, 0, 0, 0, 0, 0)), (52, (.putfield 92, 55, 9, 7, 0, 0, 0)), (55, (.iload_n 2, 56, 0, 0, 0, 0, 0)), (56, (.ireturn, 57, 0, 0, 0, 0, 0))]]
def md_X9_goes : mMd := (yX9_goes, 9, cX9_goes, 3, (some .boolean), mt_X9_goes)
def mt_X9_made : mTab := [[(0, (.aload_n 0, 1, 0, 0, 0, 0, 0)), (1, (.getfield 98, 4, 9, 10, 3, 0, 0)), (4, (.ifCond .eq 13, 7, 17, 0, 0, 0, 0)), (7, (.aload_n 0, 8, 0, 0, 0, 0, 0)), (8, (.iload_n 1, 9, 0, 0, 0, 0, 0)), (9, (.iload_n 2, 10, 0, 0, 0, 0, 0)), (10, (.iload_n 3, 11, 0, 0, 0, 0, 0)), (11, (.invokevirtual 101, 14, 120, 4, 9, 0, 0)), (14, (.goto 4, 17, 18, 0, 0, 0, 0))],
  [(17, (.iconst 0, 18, 0, 0, 0, 0, 0)), (18, (.ireturn, 19, 0, 0, 0, 0, 0))]]
def md_X9_made : mMd := (yX9_made, 9, cX9_made, 4, (some .int), mt_X9_made)
def mt_X9_readImplication : mTab := [[(0, (.aload_n 0, 1, 0, 0, 0, 0, 0)), (1, (.invokevirtual 105, 4, 129, 1, 9, 0, 0)), (4, (.istore_n 1, 5, 0, 0, 0, 0, 0)), (5, (.aload_n 0, 6, 0, 0, 0, 0, 0)), (6, (.bipush 62, 8, 0, 0, 0, 62, 0)), (8, (.invokevirtual 109, 11, 126, 2, 9, 0, 0)), (11, (.ifCond .ne 5, 14, 16, 0, 0, 0, 0)), (14, (.iload_n 1, 15, 0, 0, 0, 0, 0)), (15, (.ireturn, 16, 0, 0, 0, 0, 0))],
  [(16, (.aload_n 0, 17, 0, 0, 0, 0, 0)), (17, (.invokevirtual 113, 20, 128, 1, 9, 0, 0)), (20, (.istore_n 2, 21, 0, 0, 0, 0, 0)), (21, (.aload_n 0, 22, 0, 0, 0, 0, 0)), (22, (.iconst 4, 23, 0, 0, 0, 4, 0)), (23, (.iload_n 1, 24, 0, 0, 0, 0, 0)), (24, (.iload_n 2, 25, 0, 0, 0, 0, 0)), (25, (.invokevirtual 116, 28, 127, 4, 9, 0, 0)), (28, (.ireturn, 29, 0, 0, 0, 0, 0))]]
def md_X9_readImplication : mMd := (yX9_readImplication, 9, cX9_readImplication, 3, (some .int), mt_X9_readImplication)
def mt_X9_readDisjunction : mTab := [[(0, (.aload_n 0, 1, 0, 0, 0, 0, 0)), (1, (.invokevirtual 119, 4, 130, 1, 9, 0, 0)), (4, (.istore_n 1, 5, 0, 0, 0, 0, 0)), (5, (.aload_n 0, 6, 0, 0, 0, 0, 0)), (6, (.bipush 124, 8, 0, 0, 0, 124, 0)), (8, (.invokevirtual 109, 11, 126, 2, 9, 0, 0)), (11, (.ifCond .eq 19, 14, 30, 0, 0, 0, 0)), (14, (.aload_n 0, 15, 0, 0, 0, 0, 0)), (15, (.invokevirtual 119, 18, 130, 1, 9, 0, 0))],
  [(18, (.istore_n 2, 19, 0, 0, 0, 0, 0)), (19, (.aload_n 0, 20, 0, 0, 0, 0, 0)), (20, (.iconst 3, 21, 0, 0, 0, 3, 0)), (21, (.iload_n 1, 22, 0, 0, 0, 0, 0)), (22, (.iload_n 2, 23, 0, 0, 0, 0, 0)), (23, (.invokevirtual 116, 26, 127, 4, 9, 0, 0)), (26, (.istore_n 1, 27, 0, 0, 0, 0, 0)), (27, (.goto (-22), 30, 5, 0, 0, 0, 0)), (30, (.iload_n 1, 31, 0, 0, 0, 0, 0)), (31, (.ireturn, 32, 0, 0, 0, 0, 0))]]
def md_X9_readDisjunction : mMd := (yX9_readDisjunction, 9, cX9_readDisjunction, 3, (some .int), mt_X9_readDisjunction)
def mt_X9_readConjunction : mTab := [[(0, (.aload_n 0, 1, 0, 0, 0, 0, 0)), (1, (.invokevirtual 122, 4, 131, 1, 9, 0, 0)), (4, (.istore_n 1, 5, 0, 0, 0, 0, 0)), (5, (.aload_n 0, 6, 0, 0, 0, 0, 0)), (6, (.bipush 38, 8, 0, 0, 0, 38, 0)), (8, (.invokevirtual 109, 11, 126, 2, 9, 0, 0)), (11, (.ifCond .eq 19, 14, 30, 0, 0, 0, 0)), (14, (.aload_n 0, 15, 0, 0, 0, 0, 0)), (15, (.invokevirtual 122, 18, 131, 1, 9, 0, 0))],
  [(18, (.istore_n 2, 19, 0, 0, 0, 0, 0)), (19, (.aload_n 0, 20, 0, 0, 0, 0, 0)), (20, (.iconst 2, 21, 0, 0, 0, 2, 0)), (21, (.iload_n 1, 22, 0, 0, 0, 0, 0)), (22, (.iload_n 2, 23, 0, 0, 0, 0, 0)), (23, (.invokevirtual 116, 26, 127, 4, 9, 0, 0)), (26, (.istore_n 1, 27, 0, 0, 0, 0, 0)), (27, (.goto (-22), 30, 5, 0, 0, 0, 0)), (30, (.iload_n 1, 31, 0, 0, 0, 0, 0)), (31, (.ireturn, 32, 0, 0, 0, 0, 0))]]
def md_X9_readConjunction : mMd := (yX9_readConjunction, 9, cX9_readConjunction, 3, (some .int), mt_X9_readConjunction)
def mt_X9_readSimple : mTab := [[(0, (.aload_n 0, 1, 0, 0, 0, 0, 0)), (1, (.bipush 126, 3, 0, 0, 0, 126, 0)), (3, (.invokevirtual 109, 6, 126, 2, 9, 0, 0)), (6, (.ifCond .eq 14, 9, 20, 0, 0, 0, 0)), (9, (.aload_n 0, 10, 0, 0, 0, 0, 0)), (10, (.iconst 1, 11, 0, 0, 0, 1, 0)), (11, (.aload_n 0, 12, 0, 0, 0, 0, 0)), (12, (.invokevirtual 122, 15, 131, 1, 9, 0, 0)), (15, (.iconst 0, 16, 0, 0, 0, 0, 0))],
  [(16, (.invokevirtual 116, 19, 127, 4, 9, 0, 0)), (19, (.ireturn, 20, 0, 0, 0, 0, 0)), (20, (.aload_n 0, 21, 0, 0, 0, 0, 0)), (21, (.bipush 40, 23, 0, 0, 0, 40, 0)), (23, (.invokevirtual 109, 26, 126, 2, 9, 0, 0)), (26, (.ifCond .eq 34, 29, 60, 0, 0, 0, 0)), (29, (.aload_n 0, 30, 0, 0, 0, 0, 0)), (30, (.invokevirtual 113, 33, 128, 1, 9, 0, 0))],
  [(33, (.istore_n 1, 34, 0, 0, 0, 0, 0)), (34, (.aload_n 0, 35, 0, 0, 0, 0, 0)), (35, (.bipush 41, 37, 0, 0, 0, 41, 0)), (37, (.invokevirtual 109, 40, 126, 2, 9, 0, 0)), (40, (.ifCond .ne 18, 43, 58, 0, 0, 0, 0)), (43, (.aload_n 0, 44, 0, 0, 0, 0, 0)), (44, (.getfield 89, 47, 9, 9, 0, 0, 0)), (47, (.ifCond .ge 11, 50, 58, 0, 0, 0, 0))],
  [(50, (.aload_n 0, 51, 0, 0, 0, 0, 0)), (51, (.aload_n 0, 52, 0, 0, 0, 0, 0)), (52, (.getfield 92, 55, 9, 7, 0, 0, 0)), (55, (.putfield 89, 58, 9, 9, 0, 0, 0)), (58, (.iload_n 1, 59, 0, 0, 0, 0, 0)), (59, (.ireturn, 60, 0, 0, 0, 0, 0)), (60, (.iconst 0, 61, 0, 0, 0, 0, 0)), (61, (.istore_n 1, 62, 0, 0, 0, 0, 0)), (62, (.iload_n 1, 63, 0, 0, 0, 0, 0)), (63, (.iconst 4, 64, 0, 0, 0, 4, 0))],
  [(64, (.if_icmp .ge 23, 67, 87, 0, 0, 0, 0)), (67, (.aload_n 0, 68, 0, 0, 0, 0, 0)), (68, (.bipush 112, 70, 0, 0, 0, 112, 0)), (70, (.iload_n 1, 71, 0, 0, 0, 0, 0)), (71, (.iadd, 72, 0, 0, 0, 0, 0)), (72, (.i2c, 73, 0, 0, 0, 0, 0)), (73, (.invokevirtual 109, 76, 126, 2, 9, 0, 0)), (76, (.ifCond .eq 5, 79, 81, 0, 0, 0, 0)), (79, (.iload_n 1, 80, 0, 0, 0, 0, 0))],
  [(80, (.ireturn, 81, 0, 0, 0, 0, 0)), (81, (.iinc 1 1, 84, 0, 0, 0, 1, 0)), (84, (.goto (-22), 87, 62, 0, 0, 0, 0)), (87, (.aload_n 0, 88, 0, 0, 0, 0, 0)), (88, (.aload_n 0, 89, 0, 0, 0, 0, 0)), (89, (.getfield 89, 92, 9, 9, 0, 0, 0)), (92, (.ifCond .ge 10, 95, 102, 0, 0, 0, 0)), (95, (.aload_n 0, 96, 0, 0, 0, 0, 0))],
  [(96, (.getfield 92, 99, 9, 7, 0, 0, 0)), (99, (.goto 7, 102, 106, 0, 0, 0, 0)), (102, (.aload_n 0, 103, 0, 0, 0, 0, 0)), (103, (.getfield 89, 106, 9, 9, 0, 0, 0)), (106, (.putfield 89, 109, 9, 9, 0, 0, 0)), (109, (.iconst 0, 110, 0, 0, 0, 0, 0)), (110, (.ireturn, 111, 0, 0, 0, 0, 0))]]
def md_X9_readSimple : mMd := (yX9_readSimple, 9, cX9_readSimple, 2, (some .int), mt_X9_readSimple)
def mt_X9_readAll : mTab := [[(0, (.aload_n 0, 1, 0, 0, 0, 0, 0)), (1, (.iload_n 1, 2, 0, 0, 0, 0, 0)), (2, (.putfield 98, 5, 9, 10, 3, 0, 0)), (5, (.aload_n 0, 6, 0, 0, 0, 0, 0)), (6, (.iconst 0, 7, 0, 0, 0, 0, 0)), (7, (.putfield 92, 10, 9, 7, 0, 0, 0)), (10, (.aload_n 0, 11, 0, 0, 0, 0, 0)), (11, (.iconst (-1), 12, 0, 0, 0, (-1), 0)), (12, (.putfield 89, 15, 9, 9, 0, 0, 0)), (15, (.aload_n 0, 16, 0, 0, 0, 0, 0))],
  [(16, (.invokevirtual 113, 19, 128, 1, 9, 0, 0)), (19, (.ireturn, 20, 0, 0, 0, 0, 0))]]
def md_X9_readAll : mMd := (yX9_readAll, 9, cX9_readAll, 2, (some .int), mt_X9_readAll)
def mt_X9_parse : mTab := [[(0, (.aload_n 0, 1, 0, 0, 0, 0, 0)), (1, (.aload_n 0, 2, 0, 0, 0, 0, 0)), (2, (.getfield 86, 5, 9, 6, 0, 0, 0)), (5, (.putfield 95, 8, 9, 8, 0, 0, 0)), (8, (.aload_n 0, 9, 0, 0, 0, 0, 0)), (9, (.iconst 0, 10, 0, 0, 0, 0, 0)), (10, (.putfield 86, 13, 9, 6, 0, 0, 0)), (13, (.aload_n 0, 14, 0, 0, 0, 0, 0)), (14, (.iconst 0, 15, 0, 0, 0, 0, 0)), (15, (.invokevirtual 125, 18, 132, 2, 9, 0, 0))],
  [(18, (.istore_n 1, 19, 0, 0, 0, 0, 0)), (19, (.aload_n 0, 20, 0, 0, 0, 0, 0)), (20, (.getfield 89, 23, 9, 9, 0, 0, 0)), (23, (.ifCond .ge 22, 26, 45, 0, 0, 0, 0)), (26, (.aload_n 0, 27, 0, 0, 0, 0, 0)), (27, (.getfield 92, 30, 9, 7, 0, 0, 0)), (30, (.aload_n 0, 31, 0, 0, 0, 0, 0)), (31, (.getfield 95, 34, 9, 8, 0, 0, 0))],
  [(34, (.if_icmp .ge 11, 37, 45, 0, 0, 0, 0)), (37, (.aload_n 0, 38, 0, 0, 0, 0, 0)), (38, (.aload_n 0, 39, 0, 0, 0, 0, 0)), (39, (.getfield 92, 42, 9, 7, 0, 0, 0)), (42, (.putfield 89, 45, 9, 9, 0, 0, 0)), (45, (.aload_n 0, 46, 0, 0, 0, 0, 0)), (46, (.getfield 89, 49, 9, 9, 0, 0, 0))],
  [(49, (.ifCond .lt 12, 52, 61, 0, 0, 0, 0)), (52, (.sipush (-1000), 55, 0, 0, 0, (-1000), 0)), (55, (.aload_n 0, 56, 0, 0, 0, 0, 0)), (56, (.getfield 89, 59, 9, 9, 0, 0, 0)), (59, (.isub, 60, 0, 0, 0, 0, 0)), (60, (.ireturn, 61, 0, 0, 0, 0, 0)), (61, (.aload_n 0, 62, 0, 0, 0, 0, 0)), (62, (.getfield 9, 65, 9, 0, 0, 0, 0))],
  [(65, (.istore_n 2, 66, 0, 0, 0, 0, 0)), (66, (.aload_n 0, 67, 0, 0, 0, 0, 0)), (67, (.iconst 0, 68, 0, 0, 0, 0, 0)), (68, (.putfield 79, 71, 9, 4, 3, 0, 0)), (71, (.aload_n 0, 72, 0, 0, 0, 0, 0)), (72, (.iconst 1, 73, 0, 0, 0, 1, 0)), (73, (.invokevirtual 125, 76, 132, 2, 9, 0, 0)), (76, (.istore_n 1, 77, 0, 0, 0, 0, 0)), (77, (.aload_n 0, 78, 0, 0, 0, 0, 0)), (78, (.iload_n 2, 79, 0, 0, 0, 0, 0)), (79, (.iload_n 1, 80, 0, 0, 0, 0, 0))],
  [(80, (.invokevirtual 129, 83, 121, 3, 9, 0, 0)), (83, (.ireturn, 84, 0, 0, 0, 0, 0))]]
def md_X9_parse : mMd := (yX9_parse, 9, cX9_parse, 3, (some .int), mt_X9_parse)
def mt_X9_negate : mTab := [[(0, (.aload_n 0, 1, 0, 0, 0, 0, 0)), (1, (.iload_n 1, 2, 0, 0, 0, 0, 0)), (2, (.invokevirtual 133, 5, 119, 2, 9, 0, 0)), (5, (.ifCond .ne 6, 8, 11, 0, 0, 0, 0)), (8, (.bipush (-2), 10, 0, 0, 0, (-2), 0)), (10, (.ireturn, 11, 0, 0, 0, 0, 0)), (11, (.aload_n 0, 12, 0, 0, 0, 0, 0)), (12, (.getfield 9, 15, 9, 0, 0, 0, 0)), (15, (.istore_n 2, 16, 0, 0, 0, 0, 0))],
  [(16, (.aload_n 0, 17, 0, 0, 0, 0, 0)), (17, (.iconst 0, 18, 0, 0, 0, 0, 0)), (18, (.putfield 79, 21, 9, 4, 3, 0, 0)), (21, (.aload_n 0, 22, 0, 0, 0, 0, 0)), (22, (.iload_n 2, 23, 0, 0, 0, 0, 0)), (23, (.aload_n 0, 24, 0, 0, 0, 0, 0)), (24, (.iconst 1, 25, 0, 0, 0, 1, 0)), (25, (.iload_n 1, 26, 0, 0, 0, 0, 0)), (26, (.iconst 0, 27, 0, 0, 0, 0, 0)), (27, (.invokevirtual 101, 30, 120, 4, 9, 0, 0)), (30, (.invokevirtual 129, 33, 121, 3, 9, 0, 0))],
  [(33, (.ireturn, 34, 0, 0, 0, 0, 0))]]
def md_X9_negate : mMd := (yX9_negate, 9, cX9_negate, 3, (some .int), mt_X9_negate)
def mt_X9_combine : mTab := [[(0, (.iload_n 1, 1, 0, 0, 0, 0, 0)), (1, (.iconst 2, 2, 0, 0, 0, 2, 0)), (2, (.iconst 4, 3, 0, 0, 0, 4, 0)), (3, (.invokestatic 75, 6, 118, 3, 0, 0, 0)), (6, (.ifCond .ne 5, 9, 11, 0, 0, 0, 0)), (9, (.iconst (-1), 10, 0, 0, 0, (-1), 0)), (10, (.ireturn, 11, 0, 0, 0, 0, 0)), (11, (.aload_n 0, 12, 0, 0, 0, 0, 0)), (12, (.iload_n 2, 13, 0, 0, 0, 0, 0)), (13, (.invokevirtual 133, 16, 119, 2, 9, 0, 0))],
  [(16, (.ifCond .eq 11, 19, 27, 0, 0, 0, 0)), (19, (.aload_n 0, 20, 0, 0, 0, 0, 0)), (20, (.iload_n 3, 21, 0, 0, 0, 0, 0)), (21, (.invokevirtual 133, 24, 119, 2, 9, 0, 0)), (24, (.ifCond .ne 6, 27, 30, 0, 0, 0, 0)), (27, (.bipush (-2), 29, 0, 0, 0, (-2), 0)), (29, (.ireturn, 30, 0, 0, 0, 0, 0)), (30, (.aload_n 0, 31, 0, 0, 0, 0, 0)), (31, (.getfield 9, 34, 9, 0, 0, 0, 0))],
  [(34, (.istore 4, 36, 0, 0, 0, 0, 0)), (36, (.aload_n 0, 37, 0, 0, 0, 0, 0)), (37, (.iconst 0, 38, 0, 0, 0, 0, 0)), (38, (.putfield 79, 41, 9, 4, 3, 0, 0)), (41, (.aload_n 0, 42, 0, 0, 0, 0, 0)), (42, (.iload 4, 44, 0, 0, 0, 0, 0)), (44, (.aload_n 0, 45, 0, 0, 0, 0, 0)), (45, (.iload_n 1, 46, 0, 0, 0, 0, 0)), (46, (.iload_n 2, 47, 0, 0, 0, 0, 0)), (47, (.iload_n 3, 48, 0, 0, 0, 0, 0))],
  [(48, (.invokevirtual 101, 51, 120, 4, 9, 0, 0)), (51, (.invokevirtual 129, 54, 121, 3, 9, 0, 0)), (54, (.ireturn, 55, 0, 0, 0, 0, 0))]]
def md_X9_combine : mMd := (yX9_combine, 9, cX9_combine, 5, (some .int), mt_X9_combine)
def mt_X9_kind : mTab := [[(0, (.aload_n 0, 1, 0, 0, 0, 0, 0)), (1, (.iload_n 1, 2, 0, 0, 0, 0, 0)), (2, (.invokevirtual 133, 5, 119, 2, 9, 0, 0)), (5, (.ifCond .eq 12, 8, 17, 0, 0, 0, 0)), (8, (.aload_n 0, 9, 0, 0, 0, 0, 0)), (9, (.getfield 15, 12, 9, 1, 2, 0, 0)), (12, (.iload_n 1, 13, 0, 0, 0, 0, 0)), (13, (.iaload, 14, 0, 0, 0, 0, 0)), (14, (.goto 5, 17, 19, 0, 0, 0, 0))],
  [(17, (.bipush (-2), 19, 0, 0, 0, (-2), 0)), (19, (.ireturn, 20, 0, 0, 0, 0, 0))]]
def md_X9_kind : mMd := (yX9_kind, 9, cX9_kind, 2, (some .int), mt_X9_kind)
def mt_X9_part : mTab := [[(0, (.aload_n 0, 1, 0, 0, 0, 0, 0)), (1, (.iload_n 1, 2, 0, 0, 0, 0, 0)), (2, (.invokevirtual 133, 5, 119, 2, 9, 0, 0)), (5, (.ifCond .ne 6, 8, 11, 0, 0, 0, 0)), (8, (.bipush (-2), 10, 0, 0, 0, (-2), 0)), (10, (.ireturn, 11, 0, 0, 0, 0, 0)), (11, (.iload_n 2, 12, 0, 0, 0, 0, 0)), (12, (.iconst 0, 13, 0, 0, 0, 0, 0)), (13, (.iconst 1, 14, 0, 0, 0, 1, 0)), (14, (.invokestatic 75, 17, 118, 3, 0, 0, 0))],
  [(17, (.ifCond .ne 5, 20, 22, 0, 0, 0, 0)), (20, (.iconst (-1), 21, 0, 0, 0, (-1), 0)), (21, (.ireturn, 22, 0, 0, 0, 0, 0)), (22, (.aload_n 0, 23, 0, 0, 0, 0, 0)), (23, (.getfield 15, 26, 9, 1, 2, 0, 0)), (26, (.iload_n 1, 27, 0, 0, 0, 0, 0)), (27, (.iaload, 28, 0, 0, 0, 0, 0)), (28, (.ifCond .eq 18, 31, 46, 0, 0, 0, 0)), (31, (.iload_n 2, 32, 0, 0, 0, 0, 0))],
  [(32, (.iconst 1, 33, 0, 0, 0, 1, 0)), (33, (.if_icmp .ne 18, 36, 51, 0, 0, 0, 0)), (36, (.aload_n 0, 37, 0, 0, 0, 0, 0)), (37, (.getfield 15, 40, 9, 1, 2, 0, 0)), (40, (.iload_n 1, 41, 0, 0, 0, 0, 0)), (41, (.iaload, 42, 0, 0, 0, 0, 0)), (42, (.iconst 1, 43, 0, 0, 0, 1, 0)), (43, (.if_icmp .ne 8, 46, 51, 0, 0, 0, 0)), (46, (.bipush (-5), 48, 0, 0, 0, (-5), 0))],
  [(48, (.goto 22, 51, 70, 0, 0, 0, 0)), (51, (.iload_n 2, 52, 0, 0, 0, 0, 0)), (52, (.ifCond .ne 12, 55, 64, 0, 0, 0, 0)), (55, (.aload_n 0, 56, 0, 0, 0, 0, 0)), (56, (.getfield 19, 59, 9, 2, 2, 0, 0)), (59, (.iload_n 1, 60, 0, 0, 0, 0, 0)), (60, (.iaload, 61, 0, 0, 0, 0, 0)), (61, (.goto 9, 64, 70, 0, 0, 0, 0))],
  [(64, (.aload_n 0, 65, 0, 0, 0, 0, 0)), (65, (.getfield 22, 68, 9, 3, 2, 0, 0)), (68, (.iload_n 1, 69, 0, 0, 0, 0, 0)), (69, (.iaload, 70, 0, 0, 0, 0, 0)), (70, (.ireturn, 71, 0, 0, 0, 0, 0))]]
def md_X9_part : mMd := (yX9_part, 9, cX9_part, 3, (some .int), mt_X9_part)
def mt_X9_size : mTab := [[(0, (.aload_n 0, 1, 0, 0, 0, 0, 0)), (1, (.iload_n 1, 2, 0, 0, 0, 0, 0)), (2, (.invokevirtual 133, 5, 119, 2, 9, 0, 0)), (5, (.ifCond .ne 6, 8, 11, 0, 0, 0, 0)), (8, (.bipush (-2), 10, 0, 0, 0, (-2), 0)), (10, (.ireturn, 11, 0, 0, 0, 0, 0)), (11, (.iconst 0, 12, 0, 0, 0, 0, 0)), (12, (.istore_n 2, 13, 0, 0, 0, 0, 0)), (13, (.iload_n 2, 14, 0, 0, 0, 0, 0)), (14, (.iload_n 1, 15, 0, 0, 0, 0, 0)), (15, (.if_icmp .gt 75, 18, 90, 0, 0, 0, 0))],
  [(18, (.aload_n 0, 19, 0, 0, 0, 0, 0)), (19, (.getfield 15, 22, 9, 1, 2, 0, 0)), (22, (.iload_n 2, 23, 0, 0, 0, 0, 0)), (23, (.iaload, 24, 0, 0, 0, 0, 0)), (24, (.ifCond .ne 7, 27, 31, 0, 0, 0, 0)), (27, (.iconst 1, 28, 0, 0, 0, 1, 0)), (28, (.goto 42, 31, 70, 0, 0, 0, 0)), (31, (.iconst 1, 32, 0, 0, 0, 1, 0))],
  [(32, (.aload_n 0, 33, 0, 0, 0, 0, 0)), (33, (.getfield 28, 36, 9, 11, 2, 0, 0)), (36, (.aload_n 0, 37, 0, 0, 0, 0, 0)), (37, (.getfield 19, 40, 9, 2, 2, 0, 0)), (40, (.iload_n 2, 41, 0, 0, 0, 0, 0)), (41, (.iaload, 42, 0, 0, 0, 0, 0)), (42, (.iaload, 43, 0, 0, 0, 0, 0)), (43, (.iadd, 44, 0, 0, 0, 0, 0)), (44, (.aload_n 0, 45, 0, 0, 0, 0, 0)), (45, (.getfield 15, 48, 9, 1, 2, 0, 0))],
  [(48, (.iload_n 2, 49, 0, 0, 0, 0, 0)), (49, (.iaload, 50, 0, 0, 0, 0, 0)), (50, (.iconst 1, 51, 0, 0, 0, 1, 0)), (51, (.if_icmp .ne 7, 54, 58, 0, 0, 0, 0)), (54, (.iconst 0, 55, 0, 0, 0, 0, 0)), (55, (.goto 14, 58, 69, 0, 0, 0, 0)), (58, (.aload_n 0, 59, 0, 0, 0, 0, 0)), (59, (.getfield 28, 62, 9, 11, 2, 0, 0)), (62, (.aload_n 0, 63, 0, 0, 0, 0, 0)), (63, (.getfield 22, 66, 9, 3, 2, 0, 0))],
  [(66, (.iload_n 2, 67, 0, 0, 0, 0, 0)), (67, (.iaload, 68, 0, 0, 0, 0, 0)), (68, (.iaload, 69, 0, 0, 0, 0, 0)), (69, (.iadd, 70, 0, 0, 0, 0, 0)), (70, (.istore_n 3, 71, 0, 0, 0, 0, 0)), (71, (.aload_n 0, 72, 0, 0, 0, 0, 0)), (72, (.getfield 28, 75, 9, 11, 2, 0, 0)), (75, (.iload_n 2, 76, 0, 0, 0, 0, 0)), (76, (.iload_n 3, 77, 0, 0, 0, 0, 0)), (77, (.sipush 1000, 80, 0, 0, 0, 1000, 0))],
  [(80, (.invokestatic 137, 83, 194, 2, 0, 0, 0)), (83, (.iastore, 84, 0, 0, 0, 0, 0)), (84, (.iinc 2 1, 87, 0, 0, 0, 1, 0)), (87, (.goto (-74), 90, 13, 0, 0, 0, 0)), (90, (.aload_n 0, 91, 0, 0, 0, 0, 0)), (91, (.getfield 28, 94, 9, 11, 2, 0, 0)), (94, (.iload_n 1, 95, 0, 0, 0, 0, 0)), (95, (.iaload, 96, 0, 0, 0, 0, 0))],
  [(96, (.ireturn, 97, 0, 0, 0, 0, 0))]]
def md_X9_size : mMd := (yX9_size, 9, cX9_size, 4, (some .int), mt_X9_size)
def mt_X9_subformulas : mTab := [[(0, (.aload_n 0, 1, 0, 0, 0, 0, 0)), (1, (.iload_n 1, 2, 0, 0, 0, 0, 0)), (2, (.invokevirtual 133, 5, 119, 2, 9, 0, 0)), (5, (.ifCond .ne 7, 8, 12, 0, 0, 0, 0)), (8, (.ldc2_w 142, 11, 0, 0, 0, 0, (-9223372036854775808))), (11, (.lreturn, 12, 0, 0, 0, 0, 0)), (12, (.iconst 0, 13, 0, 0, 0, 0, 0)), (13, (.istore_n 2, 14, 0, 0, 0, 0, 0)), (14, (.iload_n 2, 15, 0, 0, 0, 0, 0)), (15, (.iload_n 1, 16, 0, 0, 0, 0, 0))],
  [(16, (.if_icmp .gt 85, 19, 101, 0, 0, 0, 0)), (19, (.aload_n 0, 20, 0, 0, 0, 0, 0)), (20, (.getfield 34, 23, 9, 13, 2, 0, 0)), (23, (.iload_n 2, 24, 0, 0, 0, 0, 0)), (24, (.lconst 1, 25, 0, 0, 0, 0, 0)), (25, (.iload_n 2, 26, 0, 0, 0, 0, 0)), (26, (.lshl, 27, 0, 0, 0, 0, 0)), (27, (.lastore, 28, 0, 0, 0, 0, 0)), (28, (.aload_n 0, 29, 0, 0, 0, 0, 0)), (29, (.getfield 34, 32, 9, 13, 2, 0, 0))],
  [(32, (.iload_n 2, 33, 0, 0, 0, 0, 0)), (33, (.dup2, 34, 0, 0, 0, 0, 0)), (34, (.laload, 35, 0, 0, 0, 0, 0)), (35, (.aload_n 0, 36, 0, 0, 0, 0, 0)), (36, (.getfield 15, 39, 9, 1, 2, 0, 0)), (39, (.iload_n 2, 40, 0, 0, 0, 0, 0)), (40, (.iaload, 41, 0, 0, 0, 0, 0)), (41, (.ifCond .ne 7, 44, 48, 0, 0, 0, 0)), (44, (.lconst 0, 45, 0, 0, 0, 0, 0)), (45, (.goto 14, 48, 59, 0, 0, 0, 0))],
  [(48, (.aload_n 0, 49, 0, 0, 0, 0, 0)), (49, (.getfield 34, 52, 9, 13, 2, 0, 0)), (52, (.aload_n 0, 53, 0, 0, 0, 0, 0)), (53, (.getfield 19, 56, 9, 2, 2, 0, 0)), (56, (.iload_n 2, 57, 0, 0, 0, 0, 0)), (57, (.iaload, 58, 0, 0, 0, 0, 0)), (58, (.laload, 59, 0, 0, 0, 0, 0)), (59, (.lor, 60, 0, 0, 0, 0, 0)), (60, (.lastore, 61, 0, 0, 0, 0, 0)), (61, (.aload_n 0, 62, 0, 0, 0, 0, 0)), (62, (.getfield 34, 65, 9, 13, 2, 0, 0))],
  [(65, (.iload_n 2, 66, 0, 0, 0, 0, 0)), (66, (.dup2, 67, 0, 0, 0, 0, 0)), (67, (.laload, 68, 0, 0, 0, 0, 0)), (68, (.aload_n 0, 69, 0, 0, 0, 0, 0)), (69, (.getfield 15, 72, 9, 1, 2, 0, 0)), (72, (.iload_n 2, 73, 0, 0, 0, 0, 0)), (73, (.iaload, 74, 0, 0, 0, 0, 0)), (74, (.iconst 2, 75, 0, 0, 0, 2, 0)), (75, (.if_icmp .ge 7, 78, 82, 0, 0, 0, 0)), (78, (.lconst 0, 79, 0, 0, 0, 0, 0)), (79, (.goto 14, 82, 93, 0, 0, 0, 0))],
  [(82, (.aload_n 0, 83, 0, 0, 0, 0, 0)), (83, (.getfield 34, 86, 9, 13, 2, 0, 0)), (86, (.aload_n 0, 87, 0, 0, 0, 0, 0)), (87, (.getfield 22, 90, 9, 3, 2, 0, 0)), (90, (.iload_n 2, 91, 0, 0, 0, 0, 0)), (91, (.iaload, 92, 0, 0, 0, 0, 0)), (92, (.laload, 93, 0, 0, 0, 0, 0)), (93, (.lor, 94, 0, 0, 0, 0, 0)), (94, (.lastore, 95, 0, 0, 0, 0, 0)), (95, (.iinc 2 1, 98, 0, 0, 0, 1, 0))],
  [(98, (.goto (-84), 101, 14, 0, 0, 0, 0)), (101, (.aload_n 0, 102, 0, 0, 0, 0, 0)), (102, (.getfield 34, 105, 9, 13, 2, 0, 0)), (105, (.iload_n 1, 106, 0, 0, 0, 0, 0)), (106, (.laload, 107, 0, 0, 0, 0, 0)), (107, (.lreturn, 108, 0, 0, 0, 0, 0))]]
def md_X9_subformulas : mMd := (yX9_subformulas, 9, cX9_subformulas, 3, (some .long), mt_X9_subformulas)
def mt_X9_tableOf : mTab := [[(0, (.iconst 0, 1, 0, 0, 0, 0, 0)), (1, (.istore_n 2, 2, 0, 0, 0, 0, 0)), (2, (.iload_n 2, 3, 0, 0, 0, 0, 0)), (3, (.iload_n 1, 4, 0, 0, 0, 0, 0)), (4, (.if_icmp .gt 170, 7, 174, 0, 0, 0, 0)), (7, (.aload_n 0, 8, 0, 0, 0, 0, 0)), (8, (.getfield 31, 11, 9, 12, 2, 0, 0)), (11, (.aload_n 0, 12, 0, 0, 0, 0, 0)), (12, (.getfield 19, 15, 9, 2, 2, 0, 0)), (15, (.iload_n 2, 16, 0, 0, 0, 0, 0))],
  [(16, (.iaload, 17, 0, 0, 0, 0, 0)), (17, (.iaload, 18, 0, 0, 0, 0, 0)), (18, (.istore_n 3, 19, 0, 0, 0, 0, 0)), (19, (.aload_n 0, 20, 0, 0, 0, 0, 0)), (20, (.getfield 31, 23, 9, 12, 2, 0, 0)), (23, (.aload_n 0, 24, 0, 0, 0, 0, 0)), (24, (.getfield 22, 27, 9, 3, 2, 0, 0)), (27, (.iload_n 2, 28, 0, 0, 0, 0, 0)), (28, (.iaload, 29, 0, 0, 0, 0, 0)), (29, (.iaload, 30, 0, 0, 0, 0, 0)), (30, (.istore 4, 32, 0, 0, 0, 0, 0))],
  [(32, (.aload_n 0, 33, 0, 0, 0, 0, 0)), (33, (.getfield 15, 36, 9, 1, 2, 0, 0)), (36, (.iload_n 2, 37, 0, 0, 0, 0, 0)), (37, (.iaload, 38, 0, 0, 0, 0, 0)), (38, (.tableswitch 115 0 3 #[30, 74, 89, 102], 68, 0, 0, 0, 0, 0))],
  [],
  [(68, (.aload_n 0, 69, 0, 0, 0, 0, 0)), (69, (.getfield 31, 72, 9, 12, 2, 0, 0)), (72, (.iload_n 2, 73, 0, 0, 0, 0, 0)), (73, (.iconst 0, 74, 0, 0, 0, 0, 0)), (74, (.iastore, 75, 0, 0, 0, 0, 0)), (75, (.iconst 0, 76, 0, 0, 0, 0, 0)), (76, (.istore 5, 78, 0, 0, 0, 0, 0)), (78, (.iload 5, 80, 0, 0, 0, 0, 0))],
  [(80, (.bipush 16, 82, 0, 0, 0, 16, 0)), (82, (.if_icmp .ge 27, 85, 109, 0, 0, 0, 0)), (85, (.aload_n 0, 86, 0, 0, 0, 0, 0)), (86, (.getfield 31, 89, 9, 12, 2, 0, 0)), (89, (.iload_n 2, 90, 0, 0, 0, 0, 0)), (90, (.dup2, 91, 0, 0, 0, 0, 0)), (91, (.iaload, 92, 0, 0, 0, 0, 0)), (92, (.iload 5, 94, 0, 0, 0, 0, 0)), (94, (.iload_n 2, 95, 0, 0, 0, 0, 0)), (95, (.ishr, 96, 0, 0, 0, 0, 0))],
  [(96, (.iconst 1, 97, 0, 0, 0, 1, 0)), (97, (.iand, 98, 0, 0, 0, 0, 0)), (98, (.iload 5, 100, 0, 0, 0, 0, 0)), (100, (.ishl, 101, 0, 0, 0, 0, 0)), (101, (.ior, 102, 0, 0, 0, 0, 0)), (102, (.iastore, 103, 0, 0, 0, 0, 0)), (103, (.iinc 5 1, 106, 0, 0, 0, 1, 0)), (106, (.goto (-28), 109, 78, 0, 0, 0, 0)), (109, (.goto 59, 112, 168, 0, 0, 0, 0))],
  [(112, (.aload_n 0, 113, 0, 0, 0, 0, 0)), (113, (.getfield 31, 116, 9, 12, 2, 0, 0)), (116, (.iload_n 2, 117, 0, 0, 0, 0, 0)), (117, (.iload_n 3, 118, 0, 0, 0, 0, 0)), (118, (.iconst (-1), 119, 0, 0, 0, (-1), 0)), (119, (.ixor, 120, 0, 0, 0, 0, 0)), (120, (.ldc 144, 122, 0, 0, 0, 65535, 0)), (122, (.iand, 123, 0, 0, 0, 0, 0)), (123, (.iastore, 124, 0, 0, 0, 0, 0)), (124, (.goto 44, 127, 168, 0, 0, 0, 0)), (127, (.aload_n 0, 128, 0, 0, 0, 0, 0))],
  [(128, (.getfield 31, 131, 9, 12, 2, 0, 0)), (131, (.iload_n 2, 132, 0, 0, 0, 0, 0)), (132, (.iload_n 3, 133, 0, 0, 0, 0, 0)), (133, (.iload 4, 135, 0, 0, 0, 0, 0)), (135, (.iand, 136, 0, 0, 0, 0, 0)), (136, (.iastore, 137, 0, 0, 0, 0, 0)), (137, (.goto 31, 140, 168, 0, 0, 0, 0)), (140, (.aload_n 0, 141, 0, 0, 0, 0, 0)), (141, (.getfield 31, 144, 9, 12, 2, 0, 0))],
  [(144, (.iload_n 2, 145, 0, 0, 0, 0, 0)), (145, (.iload_n 3, 146, 0, 0, 0, 0, 0)), (146, (.iload 4, 148, 0, 0, 0, 0, 0)), (148, (.ior, 149, 0, 0, 0, 0, 0)), (149, (.iastore, 150, 0, 0, 0, 0, 0)), (150, (.goto 18, 153, 168, 0, 0, 0, 0)), (153, (.aload_n 0, 154, 0, 0, 0, 0, 0)), (154, (.getfield 31, 157, 9, 12, 2, 0, 0)), (157, (.iload_n 2, 158, 0, 0, 0, 0, 0)), (158, (.iload_n 3, 159, 0, 0, 0, 0, 0)), (159, (.iconst (-1), 160, 0, 0, 0, (-1), 0))],
  [(160, (.ixor, 161, 0, 0, 0, 0, 0)), (161, (.iload 4, 163, 0, 0, 0, 0, 0)), (163, (.ior, 164, 0, 0, 0, 0, 0)), (164, (.ldc 144, 166, 0, 0, 0, 65535, 0)), (166, (.iand, 167, 0, 0, 0, 0, 0)), (167, (.iastore, 168, 0, 0, 0, 0, 0)), (168, (.iinc 2 1, 171, 0, 0, 0, 1, 0)), (171, (.goto (-169), 174, 2, 0, 0, 0, 0)), (174, (.aload_n 0, 175, 0, 0, 0, 0, 0)), (175, (.getfield 31, 178, 9, 12, 2, 0, 0))],
  [(178, (.iload_n 1, 179, 0, 0, 0, 0, 0)), (179, (.iaload, 180, 0, 0, 0, 0, 0)), (180, (.ireturn, 181, 0, 0, 0, 0, 0))]]
def md_X9_tableOf : mMd := (yX9_tableOf, 9, cX9_tableOf, 6, (some .int), mt_X9_tableOf)
def mt_X9_truthTable : mTab := [[(0, (.aload_n 0, 1, 0, 0, 0, 0, 0)), (1, (.iload_n 1, 2, 0, 0, 0, 0, 0)), (2, (.invokevirtual 133, 5, 119, 2, 9, 0, 0)), (5, (.ifCond .eq 11, 8, 16, 0, 0, 0, 0)), (8, (.aload_n 0, 9, 0, 0, 0, 0, 0)), (9, (.iload_n 1, 10, 0, 0, 0, 0, 0)), (10, (.invokevirtual 145, 13, 140, 2, 9, 0, 0)), (13, (.goto 5, 16, 18, 0, 0, 0, 0))],
  [(16, (.bipush (-2), 18, 0, 0, 0, (-2), 0)), (18, (.ireturn, 19, 0, 0, 0, 0, 0))]]
def md_X9_truthTable : mMd := (yX9_truthTable, 9, cX9_truthTable, 2, (some .int), mt_X9_truthTable)
def mt_X9_isEquivalent : mTab := [[(0, (.aload_n 0, 1, 0, 0, 0, 0, 0)), (1, (.iload_n 1, 2, 0, 0, 0, 0, 0)), (2, (.invokevirtual 133, 5, 119, 2, 9, 0, 0)), (5, (.ifCond .eq 11, 8, 16, 0, 0, 0, 0)), (8, (.aload_n 0, 9, 0, 0, 0, 0, 0)), (9, (.iload_n 2, 10, 0, 0, 0, 0, 0)), (10, (.invokevirtual 133, 13, 119, 2, 9, 0, 0)), (13, (.ifCond .ne 8, 16, 21, 0, 0, 0, 0))],
  [(16, (.bipush (-2), 18, 0, 0, 0, (-2), 0)), (18, (.goto 21, 21, 39, 0, 0, 0, 0)), (21, (.aload_n 0, 22, 0, 0, 0, 0, 0)), (22, (.iload_n 1, 23, 0, 0, 0, 0, 0)), (23, (.invokevirtual 145, 26, 140, 2, 9, 0, 0)), (26, (.aload_n 0, 27, 0, 0, 0, 0, 0)), (27, (.iload_n 2, 28, 0, 0, 0, 0, 0)), (28, (.invokevirtual 145, 31, 140, 2, 9, 0, 0)), (31, (.if_icmp .ne 7, 34, 38, 0, 0, 0, 0))],
  [(34, (.iconst 1, 35, 0, 0, 0, 1, 0)), (35, (.goto 4, 38, 39, 0, 0, 0, 0)), (38, (.iconst 0, 39, 0, 0, 0, 0, 0)), (39, (.ireturn, 40, 0, 0, 0, 0, 0))]]
def md_X9_isEquivalent : mMd := (yX9_isEquivalent, 9, cX9_isEquivalent, 3, (some .int), mt_X9_isEquivalent)
def mt_X9_letterAt : mTab := [[(0, (.iload_n 0, 1, 0, 0, 0, 0, 0)), (1, (.tableswitch 325 0 3 #[31, 92, 153, 220], 32, 0, 0, 0, 0, 0))],
  [],
  [(32, (.iload_n 1, 33, 0, 0, 0, 0, 0)), (33, (.ifCond .ne 8, 36, 41, 0, 0, 0, 0)), (36, (.bipush 110, 38, 0, 0, 0, 110, 0)), (38, (.goto 54, 41, 92, 0, 0, 0, 0)), (41, (.iload_n 1, 42, 0, 0, 0, 0, 0)), (42, (.iconst 1, 43, 0, 0, 0, 1, 0)), (43, (.if_icmp .ne 8, 46, 51, 0, 0, 0, 0)), (46, (.bipush 101, 48, 0, 0, 0, 101, 0))],
  [(48, (.goto 44, 51, 92, 0, 0, 0, 0)), (51, (.iload_n 1, 52, 0, 0, 0, 0, 0)), (52, (.iconst 2, 53, 0, 0, 0, 2, 0)), (53, (.if_icmp .ne 8, 56, 61, 0, 0, 0, 0)), (56, (.bipush 103, 58, 0, 0, 0, 103, 0)), (58, (.goto 34, 61, 92, 0, 0, 0, 0)), (61, (.iload_n 1, 62, 0, 0, 0, 0, 0)), (62, (.iconst 3, 63, 0, 0, 0, 3, 0)), (63, (.if_icmp .ne 8, 66, 71, 0, 0, 0, 0))],
  [(66, (.bipush 97, 68, 0, 0, 0, 97, 0)), (68, (.goto 24, 71, 92, 0, 0, 0, 0)), (71, (.iload_n 1, 72, 0, 0, 0, 0, 0)), (72, (.iconst 4, 73, 0, 0, 0, 4, 0)), (73, (.if_icmp .ne 8, 76, 81, 0, 0, 0, 0)), (76, (.bipush 116, 78, 0, 0, 0, 116, 0)), (78, (.goto 14, 81, 92, 0, 0, 0, 0))],
  [(81, (.iload_n 1, 82, 0, 0, 0, 0, 0)), (82, (.iconst 5, 83, 0, 0, 0, 5, 0)), (83, (.if_icmp .ne 8, 86, 91, 0, 0, 0, 0)), (86, (.bipush 101, 88, 0, 0, 0, 101, 0)), (88, (.goto 4, 91, 92, 0, 0, 0, 0)), (91, (.iconst 0, 92, 0, 0, 0, 0, 0)), (92, (.ireturn, 93, 0, 0, 0, 0, 0)), (93, (.iload_n 1, 94, 0, 0, 0, 0, 0)), (94, (.ifCond .ne 8, 97, 102, 0, 0, 0, 0))],
  [(97, (.bipush 100, 99, 0, 0, 0, 100, 0)), (99, (.goto 54, 102, 153, 0, 0, 0, 0)), (102, (.iload_n 1, 103, 0, 0, 0, 0, 0)), (103, (.iconst 1, 104, 0, 0, 0, 1, 0)), (104, (.if_icmp .ne 8, 107, 112, 0, 0, 0, 0)), (107, (.bipush 111, 109, 0, 0, 0, 111, 0)), (109, (.goto 44, 112, 153, 0, 0, 0, 0))],
  [(112, (.iload_n 1, 113, 0, 0, 0, 0, 0)), (113, (.iconst 2, 114, 0, 0, 0, 2, 0)), (114, (.if_icmp .ne 8, 117, 122, 0, 0, 0, 0)), (117, (.bipush 117, 119, 0, 0, 0, 117, 0)), (119, (.goto 34, 122, 153, 0, 0, 0, 0)), (122, (.iload_n 1, 123, 0, 0, 0, 0, 0)), (123, (.iconst 3, 124, 0, 0, 0, 3, 0)), (124, (.if_icmp .ne 8, 127, 132, 0, 0, 0, 0)), (127, (.bipush 98, 129, 0, 0, 0, 98, 0))],
  [(129, (.goto 24, 132, 153, 0, 0, 0, 0)), (132, (.iload_n 1, 133, 0, 0, 0, 0, 0)), (133, (.iconst 4, 134, 0, 0, 0, 4, 0)), (134, (.if_icmp .ne 8, 137, 142, 0, 0, 0, 0)), (137, (.bipush 108, 139, 0, 0, 0, 108, 0)), (139, (.goto 14, 142, 153, 0, 0, 0, 0)), (142, (.iload_n 1, 143, 0, 0, 0, 0, 0)), (143, (.iconst 5, 144, 0, 0, 0, 5, 0))],
  [(144, (.if_icmp .ne 8, 147, 152, 0, 0, 0, 0)), (147, (.bipush 101, 149, 0, 0, 0, 101, 0)), (149, (.goto 4, 152, 153, 0, 0, 0, 0)), (152, (.iconst 0, 153, 0, 0, 0, 0, 0)), (153, (.ireturn, 154, 0, 0, 0, 0, 0)), (154, (.iload_n 1, 155, 0, 0, 0, 0, 0)), (155, (.ifCond .ne 8, 158, 163, 0, 0, 0, 0)), (158, (.bipush 99, 160, 0, 0, 0, 99, 0))],
  [(160, (.goto 60, 163, 220, 0, 0, 0, 0)), (163, (.iload_n 1, 164, 0, 0, 0, 0, 0)), (164, (.iconst 1, 165, 0, 0, 0, 1, 0)), (165, (.if_icmp .ne 8, 168, 173, 0, 0, 0, 0)), (168, (.bipush 111, 170, 0, 0, 0, 111, 0)), (170, (.goto 50, 173, 220, 0, 0, 0, 0)), (173, (.iload_n 1, 174, 0, 0, 0, 0, 0)), (174, (.iconst 2, 175, 0, 0, 0, 2, 0)), (175, (.if_icmp .eq 8, 178, 183, 0, 0, 0, 0))],
  [(178, (.iload_n 1, 179, 0, 0, 0, 0, 0)), (179, (.iconst 3, 180, 0, 0, 0, 3, 0)), (180, (.if_icmp .ne 8, 183, 188, 0, 0, 0, 0)), (183, (.bipush 109, 185, 0, 0, 0, 109, 0)), (185, (.goto 35, 188, 220, 0, 0, 0, 0)), (188, (.iload_n 1, 189, 0, 0, 0, 0, 0)), (189, (.iconst 4, 190, 0, 0, 0, 4, 0)), (190, (.if_icmp .ne 8, 193, 198, 0, 0, 0, 0))],
  [(193, (.bipush 117, 195, 0, 0, 0, 117, 0)), (195, (.goto 25, 198, 220, 0, 0, 0, 0)), (198, (.iload_n 1, 199, 0, 0, 0, 0, 0)), (199, (.iconst 5, 200, 0, 0, 0, 5, 0)), (200, (.if_icmp .ne 8, 203, 208, 0, 0, 0, 0)), (203, (.bipush 116, 205, 0, 0, 0, 116, 0)), (205, (.goto 15, 208, 220, 0, 0, 0, 0))],
  [(208, (.iload_n 1, 209, 0, 0, 0, 0, 0)), (209, (.bipush 6, 211, 0, 0, 0, 6, 0)), (211, (.if_icmp .ne 8, 214, 219, 0, 0, 0, 0)), (214, (.bipush 101, 216, 0, 0, 0, 101, 0)), (216, (.goto 4, 219, 220, 0, 0, 0, 0)), (219, (.iconst 0, 220, 0, 0, 0, 0, 0)), (220, (.ireturn, 221, 0, 0, 0, 0, 0)), (221, (.iload_n 1, 222, 0, 0, 0, 0, 0)), (222, (.ifCond .ne 8, 225, 230, 0, 0, 0, 0))],
  [(225, (.bipush 99, 227, 0, 0, 0, 99, 0)), (227, (.goto 98, 230, 325, 0, 0, 0, 0)), (230, (.iload_n 1, 231, 0, 0, 0, 0, 0)), (231, (.iconst 1, 232, 0, 0, 0, 1, 0)), (232, (.if_icmp .ne 8, 235, 240, 0, 0, 0, 0)), (235, (.bipush 111, 237, 0, 0, 0, 111, 0)), (237, (.goto 88, 240, 325, 0, 0, 0, 0))],
  [(240, (.iload_n 1, 241, 0, 0, 0, 0, 0)), (241, (.iconst 2, 242, 0, 0, 0, 2, 0)), (242, (.if_icmp .ne 8, 245, 250, 0, 0, 0, 0)), (245, (.bipush 110, 247, 0, 0, 0, 110, 0)), (247, (.goto 78, 250, 325, 0, 0, 0, 0)), (250, (.iload_n 1, 251, 0, 0, 0, 0, 0)), (251, (.iconst 3, 252, 0, 0, 0, 3, 0)), (252, (.if_icmp .ne 8, 255, 260, 0, 0, 0, 0)), (255, (.bipush 116, 257, 0, 0, 0, 116, 0))],
  [(257, (.goto 68, 260, 325, 0, 0, 0, 0)), (260, (.iload_n 1, 261, 0, 0, 0, 0, 0)), (261, (.iconst 4, 262, 0, 0, 0, 4, 0)), (262, (.if_icmp .ne 8, 265, 270, 0, 0, 0, 0)), (265, (.bipush 114, 267, 0, 0, 0, 114, 0)), (267, (.goto 58, 270, 325, 0, 0, 0, 0)), (270, (.iload_n 1, 271, 0, 0, 0, 0, 0)), (271, (.iconst 5, 272, 0, 0, 0, 5, 0))],
  [(272, (.if_icmp .ne 8, 275, 280, 0, 0, 0, 0)), (275, (.bipush 97, 277, 0, 0, 0, 97, 0)), (277, (.goto 48, 280, 325, 0, 0, 0, 0)), (280, (.iload_n 1, 281, 0, 0, 0, 0, 0)), (281, (.bipush 6, 283, 0, 0, 0, 6, 0)), (283, (.if_icmp .ne 8, 286, 291, 0, 0, 0, 0)), (286, (.bipush 112, 288, 0, 0, 0, 112, 0))],
  [(288, (.goto 37, 291, 325, 0, 0, 0, 0)), (291, (.iload_n 1, 292, 0, 0, 0, 0, 0)), (292, (.bipush 7, 294, 0, 0, 0, 7, 0)), (294, (.if_icmp .ne 8, 297, 302, 0, 0, 0, 0)), (297, (.bipush 111, 299, 0, 0, 0, 111, 0)), (299, (.goto 26, 302, 325, 0, 0, 0, 0)), (302, (.iload_n 1, 303, 0, 0, 0, 0, 0)), (303, (.bipush 8, 305, 0, 0, 0, 8, 0))],
  [(305, (.if_icmp .ne 8, 308, 313, 0, 0, 0, 0)), (308, (.bipush 115, 310, 0, 0, 0, 115, 0)), (310, (.goto 15, 313, 325, 0, 0, 0, 0)), (313, (.iload_n 1, 314, 0, 0, 0, 0, 0)), (314, (.bipush 9, 316, 0, 0, 0, 9, 0)), (316, (.if_icmp .ne 8, 319, 324, 0, 0, 0, 0)), (319, (.bipush 101, 321, 0, 0, 0, 101, 0))],
  [(321, (.goto 4, 324, 325, 0, 0, 0, 0)), (324, (.iconst 0, 325, 0, 0, 0, 0, 0)), (325, (.ireturn, 326, 0, 0, 0, 0, 0)), (326, (.iload_n 1, 327, 0, 0, 0, 0, 0)), (327, (.ifCond .ne 8, 330, 335, 0, 0, 0, 0)), (330, (.bipush 116, 332, 0, 0, 0, 116, 0)), (332, (.goto 87, 335, 419, 0, 0, 0, 0)), (335, (.iload_n 1, 336, 0, 0, 0, 0, 0))],
  [(336, (.iconst 1, 337, 0, 0, 0, 1, 0)), (337, (.if_icmp .ne 8, 340, 345, 0, 0, 0, 0)), (340, (.bipush 114, 342, 0, 0, 0, 114, 0)), (342, (.goto 77, 345, 419, 0, 0, 0, 0)), (345, (.iload_n 1, 346, 0, 0, 0, 0, 0)), (346, (.iconst 2, 347, 0, 0, 0, 2, 0)), (347, (.if_icmp .ne 8, 350, 355, 0, 0, 0, 0)), (350, (.bipush 97, 352, 0, 0, 0, 97, 0))],
  [(352, (.goto 67, 355, 419, 0, 0, 0, 0)), (355, (.iload_n 1, 356, 0, 0, 0, 0, 0)), (356, (.iconst 3, 357, 0, 0, 0, 3, 0)), (357, (.if_icmp .ne 8, 360, 365, 0, 0, 0, 0)), (360, (.bipush 110, 362, 0, 0, 0, 110, 0)), (362, (.goto 57, 365, 419, 0, 0, 0, 0)), (365, (.iload_n 1, 366, 0, 0, 0, 0, 0)), (366, (.iconst 4, 367, 0, 0, 0, 4, 0)), (367, (.if_icmp .ne 8, 370, 375, 0, 0, 0, 0))],
  [(370, (.bipush 115, 372, 0, 0, 0, 115, 0)), (372, (.goto 47, 375, 419, 0, 0, 0, 0)), (375, (.iload_n 1, 376, 0, 0, 0, 0, 0)), (376, (.iconst 5, 377, 0, 0, 0, 5, 0)), (377, (.if_icmp .ne 8, 380, 385, 0, 0, 0, 0)), (380, (.bipush 108, 382, 0, 0, 0, 108, 0)), (382, (.goto 37, 385, 419, 0, 0, 0, 0))],
  [(385, (.iload_n 1, 386, 0, 0, 0, 0, 0)), (386, (.bipush 6, 388, 0, 0, 0, 6, 0)), (388, (.if_icmp .ne 8, 391, 396, 0, 0, 0, 0)), (391, (.bipush 97, 393, 0, 0, 0, 97, 0)), (393, (.goto 26, 396, 419, 0, 0, 0, 0)), (396, (.iload_n 1, 397, 0, 0, 0, 0, 0)), (397, (.bipush 7, 399, 0, 0, 0, 7, 0)), (399, (.if_icmp .ne 8, 402, 407, 0, 0, 0, 0))],
  [(402, (.bipush 116, 404, 0, 0, 0, 116, 0)), (404, (.goto 15, 407, 419, 0, 0, 0, 0)), (407, (.iload_n 1, 408, 0, 0, 0, 0, 0)), (408, (.bipush 8, 410, 0, 0, 0, 8, 0)), (410, (.if_icmp .ne 8, 413, 418, 0, 0, 0, 0)), (413, (.bipush 101, 415, 0, 0, 0, 101, 0)), (415, (.goto 4, 418, 419, 0, 0, 0, 0))],
  [(418, (.iconst 0, 419, 0, 0, 0, 0, 0)), (419, (.ireturn, 420, 0, 0, 0, 0, 0))]]
def md_X9_letterAt : mMd := (yX9_letterAt, 9, cX9_letterAt, 2, (some .int), mt_X9_letterAt)
def mt_X9_readWord : mTab := [[(0, (.iconst 0, 1, 0, 0, 0, 0, 0)), (1, (.istore_n 2, 2, 0, 0, 0, 0, 0)), (2, (.iload_n 2, 3, 0, 0, 0, 0, 0)), (3, (.iconst 5, 4, 0, 0, 0, 5, 0)), (4, (.if_icmp .ge 60, 7, 64, 0, 0, 0, 0)), (7, (.iconst 0, 8, 0, 0, 0, 0, 0)), (8, (.istore_n 3, 9, 0, 0, 0, 0, 0)), (9, (.iload_n 3, 10, 0, 0, 0, 0, 0)), (10, (.iload_n 1, 11, 0, 0, 0, 0, 0)), (11, (.if_icmp .ge 32, 14, 43, 0, 0, 0, 0)), (14, (.iload_n 2, 15, 0, 0, 0, 0, 0)), (15, (.iload_n 3, 16, 0, 0, 0, 0, 0))],
  [(16, (.invokestatic 149, 19, 143, 2, 0, 0, 0)), (19, (.aload_n 0, 20, 0, 0, 0, 0, 0)), (20, (.getfield 25, 23, 9, 5, 2, 0, 0)), (23, (.iload_n 3, 24, 0, 0, 0, 0, 0)), (24, (.iaload, 25, 0, 0, 0, 0, 0)), (25, (.if_icmp .ne 18, 28, 43, 0, 0, 0, 0)), (28, (.aload_n 0, 29, 0, 0, 0, 0, 0)), (29, (.getfield 25, 32, 9, 5, 2, 0, 0))],
  [(32, (.iload_n 3, 33, 0, 0, 0, 0, 0)), (33, (.iaload, 34, 0, 0, 0, 0, 0)), (34, (.ifCond .eq 9, 37, 43, 0, 0, 0, 0)), (37, (.iinc 3 1, 40, 0, 0, 0, 1, 0)), (40, (.goto (-31), 43, 9, 0, 0, 0, 0)), (43, (.iload_n 3, 44, 0, 0, 0, 0, 0)), (44, (.iload_n 1, 45, 0, 0, 0, 0, 0)), (45, (.if_icmp .ne 13, 48, 58, 0, 0, 0, 0))],
  [(48, (.iload_n 2, 49, 0, 0, 0, 0, 0)), (49, (.iload_n 3, 50, 0, 0, 0, 0, 0)), (50, (.invokestatic 149, 53, 143, 2, 0, 0, 0)), (53, (.ifCond .ne 5, 56, 58, 0, 0, 0, 0)), (56, (.iload_n 2, 57, 0, 0, 0, 0, 0)), (57, (.ireturn, 58, 0, 0, 0, 0, 0)), (58, (.iinc 2 1, 61, 0, 0, 0, 1, 0)), (61, (.goto (-59), 64, 2, 0, 0, 0, 0))],
  [(64, (.bipush (-5), 66, 0, 0, 0, (-5), 0)), (66, (.ireturn, 67, 0, 0, 0, 0, 0))]]
def md_X9_readWord : mMd := (yX9_readWord, 9, cX9_readWord, 4, (some .int), mt_X9_readWord)
def mt_X9_not : mTab := [[(0, (.aload_n 0, 1, 0, 0, 0, 0, 0)), (1, (.iconst 1, 2, 0, 0, 0, 1, 0)), (2, (.iload_n 1, 3, 0, 0, 0, 0, 0)), (3, (.iconst 0, 4, 0, 0, 0, 0, 0)), (4, (.invokevirtual 101, 7, 120, 4, 9, 0, 0)), (7, (.ireturn, 8, 0, 0, 0, 0, 0))]]
def md_X9_not : mMd := (yX9_not, 9, cX9_not, 2, (some .int), mt_X9_not)
def mt_X9_translate : mTab := [[(0, (.aload_n 0, 1, 0, 0, 0, 0, 0)), (1, (.getfield 38, 4, 9, 14, 2, 0, 0)), (4, (.iload_n 1, 5, 0, 0, 0, 0, 0)), (5, (.iaload, 6, 0, 0, 0, 0, 0)), (6, (.ifCond .ge 21, 9, 27, 0, 0, 0, 0)), (9, (.aload_n 0, 10, 0, 0, 0, 0, 0)), (10, (.getfield 79, 13, 9, 4, 3, 0, 0)), (13, (.ifCond .ne 14, 16, 27, 0, 0, 0, 0))],
  [(16, (.aload_n 0, 17, 0, 0, 0, 0, 0)), (17, (.getfield 38, 20, 9, 14, 2, 0, 0)), (20, (.iload_n 1, 21, 0, 0, 0, 0, 0)), (21, (.aload_n 0, 22, 0, 0, 0, 0, 0)), (22, (.iload_n 1, 23, 0, 0, 0, 0, 0)), (23, (.invokevirtual 152, 26, 147, 2, 9, 0, 0)), (26, (.iastore, 27, 0, 0, 0, 0, 0)), (27, (.iconst 0, 28, 0, 0, 0, 0, 0)), (28, (.aload_n 0, 29, 0, 0, 0, 0, 0)), (29, (.getfield 38, 32, 9, 14, 2, 0, 0))],
  [(32, (.iload_n 1, 33, 0, 0, 0, 0, 0)), (33, (.iaload, 34, 0, 0, 0, 0, 0)), (34, (.invokestatic 155, 37, 193, 2, 0, 0, 0)), (37, (.ireturn, 38, 0, 0, 0, 0, 0))]]
def md_X9_translate : mMd := (yX9_translate, 9, cX9_translate, 2, (some .int), mt_X9_translate)
def mt_X9_translation : mTab := [[(0, (.aload_n 0, 1, 0, 0, 0, 0, 0)), (1, (.getfield 15, 4, 9, 1, 2, 0, 0)), (4, (.iload_n 1, 5, 0, 0, 0, 0, 0)), (5, (.iaload, 6, 0, 0, 0, 0, 0)), (6, (.ifCond .ne 13, 9, 19, 0, 0, 0, 0)), (9, (.aload_n 0, 10, 0, 0, 0, 0, 0)), (10, (.aload_n 0, 11, 0, 0, 0, 0, 0)), (11, (.iload_n 1, 12, 0, 0, 0, 0, 0)), (12, (.invokevirtual 158, 15, 145, 2, 9, 0, 0)), (15, (.invokevirtual 158, 18, 145, 2, 9, 0, 0))],
  [(18, (.ireturn, 19, 0, 0, 0, 0, 0)), (19, (.aload_n 0, 20, 0, 0, 0, 0, 0)), (20, (.aload_n 0, 21, 0, 0, 0, 0, 0)), (21, (.getfield 19, 24, 9, 2, 2, 0, 0)), (24, (.iload_n 1, 25, 0, 0, 0, 0, 0)), (25, (.iaload, 26, 0, 0, 0, 0, 0)), (26, (.invokevirtual 161, 29, 146, 2, 9, 0, 0)), (29, (.istore_n 2, 30, 0, 0, 0, 0, 0)), (30, (.aload_n 0, 31, 0, 0, 0, 0, 0)), (31, (.getfield 15, 34, 9, 1, 2, 0, 0))],
  [(34, (.iload_n 1, 35, 0, 0, 0, 0, 0)), (35, (.iaload, 36, 0, 0, 0, 0, 0)), (36, (.iconst 1, 37, 0, 0, 0, 1, 0)), (37, (.if_icmp .ne 9, 40, 46, 0, 0, 0, 0)), (40, (.aload_n 0, 41, 0, 0, 0, 0, 0)), (41, (.iload_n 2, 42, 0, 0, 0, 0, 0)), (42, (.invokevirtual 158, 45, 145, 2, 9, 0, 0)), (45, (.ireturn, 46, 0, 0, 0, 0, 0)), (46, (.aload_n 0, 47, 0, 0, 0, 0, 0)), (47, (.getfield 15, 50, 9, 1, 2, 0, 0))],
  [(50, (.iload_n 1, 51, 0, 0, 0, 0, 0)), (51, (.iaload, 52, 0, 0, 0, 0, 0)), (52, (.iconst 3, 53, 0, 0, 0, 3, 0)), (53, (.if_icmp .ne 11, 56, 64, 0, 0, 0, 0)), (56, (.aload_n 0, 57, 0, 0, 0, 0, 0)), (57, (.iload_n 2, 58, 0, 0, 0, 0, 0)), (58, (.invokevirtual 158, 61, 145, 2, 9, 0, 0)), (61, (.goto 4, 64, 65, 0, 0, 0, 0))],
  [(64, (.iload_n 2, 65, 0, 0, 0, 0, 0)), (65, (.istore_n 2, 66, 0, 0, 0, 0, 0)), (66, (.aload_n 0, 67, 0, 0, 0, 0, 0)), (67, (.aload_n 0, 68, 0, 0, 0, 0, 0)), (68, (.getfield 22, 71, 9, 3, 2, 0, 0)), (71, (.iload_n 1, 72, 0, 0, 0, 0, 0)), (72, (.iaload, 73, 0, 0, 0, 0, 0)), (73, (.invokevirtual 161, 76, 146, 2, 9, 0, 0)), (76, (.istore_n 3, 77, 0, 0, 0, 0, 0)), (77, (.aload_n 0, 78, 0, 0, 0, 0, 0)), (78, (.getfield 15, 81, 9, 1, 2, 0, 0))],
  [(81, (.iload_n 1, 82, 0, 0, 0, 0, 0)), (82, (.iaload, 83, 0, 0, 0, 0, 0)), (83, (.iconst 3, 84, 0, 0, 0, 3, 0)), (84, (.if_icmp .ne 19, 87, 103, 0, 0, 0, 0)), (87, (.aload_n 0, 88, 0, 0, 0, 0, 0)), (88, (.aload_n 0, 89, 0, 0, 0, 0, 0)), (89, (.iconst 2, 90, 0, 0, 0, 2, 0)), (90, (.iload_n 2, 91, 0, 0, 0, 0, 0)), (91, (.aload_n 0, 92, 0, 0, 0, 0, 0)), (92, (.iload_n 3, 93, 0, 0, 0, 0, 0)), (93, (.invokevirtual 158, 96, 145, 2, 9, 0, 0))],
  [(96, (.invokevirtual 101, 99, 120, 4, 9, 0, 0)), (99, (.invokevirtual 158, 102, 145, 2, 9, 0, 0)), (102, (.ireturn, 103, 0, 0, 0, 0, 0)), (103, (.aload_n 0, 104, 0, 0, 0, 0, 0)), (104, (.aload_n 0, 105, 0, 0, 0, 0, 0)), (105, (.getfield 15, 108, 9, 1, 2, 0, 0)), (108, (.iload_n 1, 109, 0, 0, 0, 0, 0)), (109, (.iaload, 110, 0, 0, 0, 0, 0)), (110, (.iload_n 2, 111, 0, 0, 0, 0, 0)), (111, (.iload_n 3, 112, 0, 0, 0, 0, 0))],
  [(112, (.invokevirtual 101, 115, 120, 4, 9, 0, 0)), (115, (.ireturn, 116, 0, 0, 0, 0, 0))]]
def md_X9_translation : mMd := (yX9_translation, 9, cX9_translation, 4, (some .int), mt_X9_translation)
def mt_X9_transformed : mTab := [[(0, (.iload_n 1, 1, 0, 0, 0, 0, 0)), (1, (.tableswitch 98 0 3 #[31, 37, 47, 70], 32, 0, 0, 0, 0, 0))],
  [],
  [(32, (.aload_n 0, 33, 0, 0, 0, 0, 0)), (33, (.iload_n 2, 34, 0, 0, 0, 0, 0)), (34, (.invokevirtual 158, 37, 145, 2, 9, 0, 0)), (37, (.ireturn, 38, 0, 0, 0, 0, 0)), (38, (.aload_n 0, 39, 0, 0, 0, 0, 0)), (39, (.aload_n 0, 40, 0, 0, 0, 0, 0)), (40, (.iload_n 2, 41, 0, 0, 0, 0, 0)), (41, (.invokevirtual 158, 44, 145, 2, 9, 0, 0)), (44, (.invokevirtual 158, 47, 145, 2, 9, 0, 0)), (47, (.ireturn, 48, 0, 0, 0, 0, 0))],
  [(48, (.aload_n 0, 49, 0, 0, 0, 0, 0)), (49, (.aload_n 0, 50, 0, 0, 0, 0, 0)), (50, (.getfield 15, 53, 9, 1, 2, 0, 0)), (53, (.iload_n 2, 54, 0, 0, 0, 0, 0)), (54, (.iaload, 55, 0, 0, 0, 0, 0)), (55, (.aload_n 0, 56, 0, 0, 0, 0, 0)), (56, (.getfield 22, 59, 9, 3, 2, 0, 0)), (59, (.iload_n 2, 60, 0, 0, 0, 0, 0)), (60, (.iaload, 61, 0, 0, 0, 0, 0)), (61, (.aload_n 0, 62, 0, 0, 0, 0, 0)), (62, (.getfield 19, 65, 9, 2, 2, 0, 0))],
  [(65, (.iload_n 2, 66, 0, 0, 0, 0, 0)), (66, (.iaload, 67, 0, 0, 0, 0, 0)), (67, (.invokevirtual 101, 70, 120, 4, 9, 0, 0)), (70, (.ireturn, 71, 0, 0, 0, 0, 0)), (71, (.aload_n 0, 72, 0, 0, 0, 0, 0)), (72, (.aload_n 0, 73, 0, 0, 0, 0, 0)), (73, (.getfield 22, 76, 9, 3, 2, 0, 0)), (76, (.iload_n 2, 77, 0, 0, 0, 0, 0)), (77, (.iaload, 78, 0, 0, 0, 0, 0)), (78, (.invokevirtual 158, 81, 145, 2, 9, 0, 0))],
  [(81, (.istore_n 3, 82, 0, 0, 0, 0, 0)), (82, (.aload_n 0, 83, 0, 0, 0, 0, 0)), (83, (.iconst 4, 84, 0, 0, 0, 4, 0)), (84, (.iload_n 3, 85, 0, 0, 0, 0, 0)), (85, (.aload_n 0, 86, 0, 0, 0, 0, 0)), (86, (.aload_n 0, 87, 0, 0, 0, 0, 0)), (87, (.getfield 19, 90, 9, 2, 2, 0, 0)), (90, (.iload_n 2, 91, 0, 0, 0, 0, 0)), (91, (.iaload, 92, 0, 0, 0, 0, 0)), (92, (.invokevirtual 158, 95, 145, 2, 9, 0, 0)), (95, (.invokevirtual 101, 98, 120, 4, 9, 0, 0))],
  [(98, (.ireturn, 99, 0, 0, 0, 0, 0)), (99, (.iconst 0, 100, 0, 0, 0, 0, 0)), (100, (.istore 4, 102, 0, 0, 0, 0, 0)), (102, (.iload 4, 104, 0, 0, 0, 0, 0)), (104, (.bipush 40, 106, 0, 0, 0, 40, 0)), (106, (.if_icmp .ge 17, 109, 123, 0, 0, 0, 0)), (109, (.aload_n 0, 110, 0, 0, 0, 0, 0)), (110, (.getfield 38, 113, 9, 14, 2, 0, 0))],
  [(113, (.iload 4, 115, 0, 0, 0, 0, 0)), (115, (.iconst (-1), 116, 0, 0, 0, (-1), 0)), (116, (.iastore, 117, 0, 0, 0, 0, 0)), (117, (.iinc 4 1, 120, 0, 0, 0, 1, 0)), (120, (.goto (-18), 123, 102, 0, 0, 0, 0)), (123, (.aload_n 0, 124, 0, 0, 0, 0, 0)), (124, (.iload_n 2, 125, 0, 0, 0, 0, 0)), (125, (.invokevirtual 161, 128, 146, 2, 9, 0, 0))],
  [(128, (.ireturn, 129, 0, 0, 0, 0, 0))]]
def md_X9_transformed : mMd := (yX9_transformed, 9, cX9_transformed, 5, (some .int), mt_X9_transformed)
def mt_X9_transform : mTab := [[(0, (.aload_n 0, 1, 0, 0, 0, 0, 0)), (1, (.invokevirtual 164, 4, 125, 1, 9, 0, 0)), (4, (.istore_n 2, 5, 0, 0, 0, 0, 0)), (5, (.aload_n 0, 6, 0, 0, 0, 0, 0)), (6, (.iload_n 1, 7, 0, 0, 0, 0, 0)), (7, (.invokevirtual 133, 10, 119, 2, 9, 0, 0)), (10, (.ifCond .ne 6, 13, 16, 0, 0, 0, 0)), (13, (.bipush (-2), 15, 0, 0, 0, (-2), 0)), (15, (.ireturn, 16, 0, 0, 0, 0, 0))],
  [(16, (.aload_n 0, 17, 0, 0, 0, 0, 0)), (17, (.iload_n 2, 18, 0, 0, 0, 0, 0)), (18, (.invokevirtual 167, 21, 144, 2, 9, 0, 0)), (21, (.istore_n 3, 22, 0, 0, 0, 0, 0)), (22, (.iload_n 3, 23, 0, 0, 0, 0, 0)), (23, (.iconst 2, 24, 0, 0, 0, 2, 0)), (24, (.if_icmp .ne 23, 27, 47, 0, 0, 0, 0)), (27, (.aload_n 0, 28, 0, 0, 0, 0, 0)), (28, (.getfield 15, 31, 9, 1, 2, 0, 0)), (31, (.iload_n 1, 32, 0, 0, 0, 0, 0))],
  [(32, (.iaload, 33, 0, 0, 0, 0, 0)), (33, (.iconst 2, 34, 0, 0, 0, 2, 0)), (34, (.if_icmp .eq 13, 37, 47, 0, 0, 0, 0)), (37, (.aload_n 0, 38, 0, 0, 0, 0, 0)), (38, (.getfield 15, 41, 9, 1, 2, 0, 0)), (41, (.iload_n 1, 42, 0, 0, 0, 0, 0)), (42, (.iaload, 43, 0, 0, 0, 0, 0)), (43, (.iconst 3, 44, 0, 0, 0, 3, 0)), (44, (.if_icmp .ne 7, 47, 51, 0, 0, 0, 0)), (47, (.iconst 1, 48, 0, 0, 0, 1, 0))],
  [(48, (.goto 4, 51, 52, 0, 0, 0, 0)), (51, (.iconst 0, 52, 0, 0, 0, 0, 0)), (52, (.istore 4, 54, 0, 0, 0, 0, 0)), (54, (.iload_n 3, 55, 0, 0, 0, 0, 0)), (55, (.bipush (-5), 57, 0, 0, 0, (-5), 0)), (57, (.if_icmp .eq 23, 60, 80, 0, 0, 0, 0)), (60, (.iload 4, 62, 0, 0, 0, 0, 0)), (62, (.ifCond .eq 18, 65, 80, 0, 0, 0, 0))],
  [(65, (.iload_n 3, 66, 0, 0, 0, 0, 0)), (66, (.iconst 3, 67, 0, 0, 0, 3, 0)), (67, (.if_icmp .ne 16, 70, 83, 0, 0, 0, 0)), (70, (.aload_n 0, 71, 0, 0, 0, 0, 0)), (71, (.getfield 15, 74, 9, 1, 2, 0, 0)), (74, (.iload_n 1, 75, 0, 0, 0, 0, 0)), (75, (.iaload, 76, 0, 0, 0, 0, 0)), (76, (.iconst 4, 77, 0, 0, 0, 4, 0)), (77, (.if_icmp .eq 6, 80, 83, 0, 0, 0, 0))],
  [(80, (.bipush (-4), 82, 0, 0, 0, (-4), 0)), (82, (.ireturn, 83, 0, 0, 0, 0, 0)), (83, (.aload_n 0, 84, 0, 0, 0, 0, 0)), (84, (.getfield 9, 87, 9, 0, 0, 0, 0)), (87, (.istore 5, 89, 0, 0, 0, 0, 0)), (89, (.aload_n 0, 90, 0, 0, 0, 0, 0)), (90, (.iconst 0, 91, 0, 0, 0, 0, 0)), (91, (.putfield 79, 94, 9, 4, 3, 0, 0)), (94, (.aload_n 0, 95, 0, 0, 0, 0, 0)), (95, (.iload 5, 97, 0, 0, 0, 0, 0))],
  [(97, (.aload_n 0, 98, 0, 0, 0, 0, 0)), (98, (.iload_n 3, 99, 0, 0, 0, 0, 0)), (99, (.iload_n 1, 100, 0, 0, 0, 0, 0)), (100, (.invokevirtual 170, 103, 148, 3, 9, 0, 0)), (103, (.invokevirtual 129, 106, 121, 3, 9, 0, 0)), (106, (.ireturn, 107, 0, 0, 0, 0, 0))]]
def md_X9_transform : mMd := (yX9_transform, 9, cX9_transform, 6, (some .int), mt_X9_transform)
def mt_X9_attacksOn : mTab := [[(0, (.aload_n 0, 1, 0, 0, 0, 0, 0)), (1, (.getfield 15, 4, 9, 1, 2, 0, 0)), (4, (.iload_n 1, 5, 0, 0, 0, 0, 0)), (5, (.iaload, 6, 0, 0, 0, 0, 0)), (6, (.ifCond .ne 7, 9, 13, 0, 0, 0, 0)), (9, (.iconst 0, 10, 0, 0, 0, 0, 0)), (10, (.goto 18, 13, 28, 0, 0, 0, 0)), (13, (.aload_n 0, 14, 0, 0, 0, 0, 0)), (14, (.getfield 15, 17, 9, 1, 2, 0, 0))],
  [(17, (.iload_n 1, 18, 0, 0, 0, 0, 0)), (18, (.iaload, 19, 0, 0, 0, 0, 0)), (19, (.iconst 2, 20, 0, 0, 0, 2, 0)), (20, (.if_icmp .ne 7, 23, 27, 0, 0, 0, 0)), (23, (.iconst 2, 24, 0, 0, 0, 2, 0)), (24, (.goto 4, 27, 28, 0, 0, 0, 0)), (27, (.iconst 1, 28, 0, 0, 0, 1, 0)), (28, (.ireturn, 29, 0, 0, 0, 0, 0))]]
def md_X9_attacksOn : mMd := (yX9_attacksOn, 9, cX9_attacksOn, 2, (some .int), mt_X9_attacksOn)
def mt_X9_attack : mTab := [[(0, (.lconst 0, 1, 0, 0, 0, 0, 0)), (1, (.lstore_n 3, 2, 0, 0, 0, 0, 0)), (2, (.aload_n 0, 3, 0, 0, 0, 0, 0)), (3, (.getfield 15, 6, 9, 1, 2, 0, 0)), (6, (.iload_n 1, 7, 0, 0, 0, 0, 0)), (7, (.iaload, 8, 0, 0, 0, 0, 0)), (8, (.tableswitch 94 1 3 #[28, 48, 73], 36, 0, 0, 0, 0, 0))],
  [],
  [(36, (.aload_n 0, 37, 0, 0, 0, 0, 0)), (37, (.dup, 38, 0, 0, 0, 0, 0)), (38, (.getfield 173, 41, 9, 15, 1, 0, 0)), (41, (.lconst 1, 42, 0, 0, 0, 0, 0)), (42, (.aload_n 0, 43, 0, 0, 0, 0, 0)), (43, (.getfield 19, 46, 9, 2, 2, 0, 0)), (46, (.iload_n 1, 47, 0, 0, 0, 0, 0)), (47, (.iaload, 48, 0, 0, 0, 0, 0))],
  [(48, (.lshl, 49, 0, 0, 0, 0, 0)), (49, (.lor, 50, 0, 0, 0, 0, 0)), (50, (.putfield 173, 53, 9, 15, 1, 0, 0)), (53, (.goto 75, 56, 128, 0, 0, 0, 0)), (56, (.lconst 1, 57, 0, 0, 0, 0, 0)), (57, (.iload_n 2, 58, 0, 0, 0, 0, 0)), (58, (.ifCond .ne 12, 61, 70, 0, 0, 0, 0)), (61, (.aload_n 0, 62, 0, 0, 0, 0, 0)), (62, (.getfield 19, 65, 9, 2, 2, 0, 0))],
  [(65, (.iload_n 1, 66, 0, 0, 0, 0, 0)), (66, (.iaload, 67, 0, 0, 0, 0, 0)), (67, (.goto 9, 70, 76, 0, 0, 0, 0)), (70, (.aload_n 0, 71, 0, 0, 0, 0, 0)), (71, (.getfield 22, 74, 9, 3, 2, 0, 0)), (74, (.iload_n 1, 75, 0, 0, 0, 0, 0)), (75, (.iaload, 76, 0, 0, 0, 0, 0)), (76, (.lshl, 77, 0, 0, 0, 0, 0)), (77, (.lstore_n 3, 78, 0, 0, 0, 0, 0)), (78, (.goto 50, 81, 128, 0, 0, 0, 0))],
  [(81, (.lconst 1, 82, 0, 0, 0, 0, 0)), (82, (.aload_n 0, 83, 0, 0, 0, 0, 0)), (83, (.getfield 19, 86, 9, 2, 2, 0, 0)), (86, (.iload_n 1, 87, 0, 0, 0, 0, 0)), (87, (.iaload, 88, 0, 0, 0, 0, 0)), (88, (.lshl, 89, 0, 0, 0, 0, 0)), (89, (.lconst 1, 90, 0, 0, 0, 0, 0)), (90, (.aload_n 0, 91, 0, 0, 0, 0, 0)), (91, (.getfield 22, 94, 9, 3, 2, 0, 0)), (94, (.iload_n 1, 95, 0, 0, 0, 0, 0)), (95, (.iaload, 96, 0, 0, 0, 0, 0))],
  [(96, (.lshl, 97, 0, 0, 0, 0, 0)), (97, (.lor, 98, 0, 0, 0, 0, 0)), (98, (.lstore_n 3, 99, 0, 0, 0, 0, 0)), (99, (.goto 29, 102, 128, 0, 0, 0, 0)), (102, (.aload_n 0, 103, 0, 0, 0, 0, 0)), (103, (.dup, 104, 0, 0, 0, 0, 0)), (104, (.getfield 173, 107, 9, 15, 1, 0, 0)), (107, (.lconst 1, 108, 0, 0, 0, 0, 0)), (108, (.aload_n 0, 109, 0, 0, 0, 0, 0)), (109, (.getfield 19, 112, 9, 2, 2, 0, 0))],
  [(112, (.iload_n 1, 113, 0, 0, 0, 0, 0)), (113, (.iaload, 114, 0, 0, 0, 0, 0)), (114, (.lshl, 115, 0, 0, 0, 0, 0)), (115, (.lor, 116, 0, 0, 0, 0, 0)), (116, (.putfield 173, 119, 9, 15, 1, 0, 0)), (119, (.lconst 1, 120, 0, 0, 0, 0, 0)), (120, (.aload_n 0, 121, 0, 0, 0, 0, 0)), (121, (.getfield 22, 124, 9, 3, 2, 0, 0)), (124, (.iload_n 1, 125, 0, 0, 0, 0, 0)), (125, (.iaload, 126, 0, 0, 0, 0, 0)), (126, (.lshl, 127, 0, 0, 0, 0, 0)), (127, (.lstore_n 3, 128, 0, 0, 0, 0, 0))],
  [(128, (.aload_n 0, 129, 0, 0, 0, 0, 0)), (129, (.aload_n 0, 130, 0, 0, 0, 0, 0)), (130, (.getfield 177, 133, 9, 17, 0, 0, 0)), (133, (.ifCond .ne 7, 136, 140, 0, 0, 0, 0)), (136, (.lload_n 3, 137, 0, 0, 0, 0, 0)), (137, (.goto 9, 140, 146, 0, 0, 0, 0)), (140, (.aload_n 0, 141, 0, 0, 0, 0, 0)), (141, (.getfield 180, 144, 9, 16, 1, 0, 0))],
  [(144, (.lload_n 3, 145, 0, 0, 0, 0, 0)), (145, (.lor, 146, 0, 0, 0, 0, 0)), (146, (.putfield 180, 149, 9, 16, 1, 0, 0)), (149, (.return_, 150, 0, 0, 0, 0, 0))]]
def md_X9_attack : mMd := (yX9_attack, 9, cX9_attack, 5, (none : Option Jvm.ClassFile.FieldType), mt_X9_attack)
def mt_X9_mayClaim : mTab := [[(0, (.aload_n 0, 1, 0, 0, 0, 0, 0)), (1, (.getfield 15, 4, 9, 1, 2, 0, 0)), (4, (.iload_n 1, 5, 0, 0, 0, 0, 0)), (5, (.iaload, 6, 0, 0, 0, 0, 0)), (6, (.ifCond .ne 16, 9, 22, 0, 0, 0, 0)), (9, (.aload_n 0, 10, 0, 0, 0, 0, 0)), (10, (.getfield 173, 13, 9, 15, 1, 0, 0)), (13, (.iload_n 1, 14, 0, 0, 0, 0, 0)), (14, (.lshr, 15, 0, 0, 0, 0, 0)), (15, (.lconst 1, 16, 0, 0, 0, 0, 0))],
  [(16, (.land, 17, 0, 0, 0, 0, 0)), (17, (.lconst 1, 18, 0, 0, 0, 0, 0)), (18, (.lcmp, 19, 0, 0, 0, 0, 0)), (19, (.ifCond .ne 7, 22, 26, 0, 0, 0, 0)), (22, (.iconst 1, 23, 0, 0, 0, 1, 0)), (23, (.goto 4, 26, 27, 0, 0, 0, 0)), (26, (.iconst 0, 27, 0, 0, 0, 0, 0)), (27, (.ireturn, 28, 0, 0, 0, 0, 0))]]
def md_X9_mayClaim : mMd := (yX9_mayClaim, 9, cX9_mayClaim, 2, (some .boolean), mt_X9_mayClaim)
def mt_X9_findMove : mTab := [[(0, (.iconst 0, 1, 0, 0, 0, 0, 0)), (1, (.istore_n 2, 2, 0, 0, 0, 0, 0)), (2, (.iconst 0, 3, 0, 0, 0, 0, 0)), (3, (.istore_n 3, 4, 0, 0, 0, 0, 0)), (4, (.iload_n 3, 5, 0, 0, 0, 0, 0)), (5, (.aload_n 0, 6, 0, 0, 0, 0, 0)), (6, (.getfield 9, 9, 9, 0, 0, 0, 0)), (9, (.if_icmp .ge 50, 12, 59, 0, 0, 0, 0)), (12, (.aload_n 0, 13, 0, 0, 0, 0, 0)), (13, (.getfield 180, 16, 9, 16, 1, 0, 0))],
  [(16, (.iload_n 3, 17, 0, 0, 0, 0, 0)), (17, (.lshr, 18, 0, 0, 0, 0, 0)), (18, (.lconst 1, 19, 0, 0, 0, 0, 0)), (19, (.land, 20, 0, 0, 0, 0, 0)), (20, (.lconst 1, 21, 0, 0, 0, 0, 0)), (21, (.lcmp, 22, 0, 0, 0, 0, 0)), (22, (.ifCond .ne 31, 25, 53, 0, 0, 0, 0)), (25, (.aload_n 0, 26, 0, 0, 0, 0, 0)), (26, (.iload_n 3, 27, 0, 0, 0, 0, 0)), (27, (.invokevirtual 183, 30, 152, 2, 9, 0, 0)), (30, (.ifCond .eq 23, 33, 53, 0, 0, 0, 0))],
  [(33, (.iload_n 2, 34, 0, 0, 0, 0, 0)), (34, (.iload_n 1, 35, 0, 0, 0, 0, 0)), (35, (.if_icmp .ne 15, 38, 50, 0, 0, 0, 0)), (38, (.aload_n 0, 39, 0, 0, 0, 0, 0)), (39, (.iconst 0, 40, 0, 0, 0, 0, 0)), (40, (.putfield 186, 43, 9, 18, 0, 0, 0)), (43, (.aload_n 0, 44, 0, 0, 0, 0, 0)), (44, (.iload_n 3, 45, 0, 0, 0, 0, 0)), (45, (.putfield 189, 48, 9, 19, 0, 0, 0))],
  [(48, (.iload_n 2, 49, 0, 0, 0, 0, 0)), (49, (.ireturn, 50, 0, 0, 0, 0, 0)), (50, (.iinc 2 1, 53, 0, 0, 0, 1, 0)), (53, (.iinc 3 1, 56, 0, 0, 0, 1, 0)), (56, (.goto (-52), 59, 4, 0, 0, 0, 0)), (59, (.iconst 4, 60, 0, 0, 0, 4, 0)), (60, (.istore_n 3, 61, 0, 0, 0, 0, 0)), (61, (.iload_n 3, 62, 0, 0, 0, 0, 0)), (62, (.aload_n 0, 63, 0, 0, 0, 0, 0)), (63, (.getfield 9, 66, 9, 0, 0, 0, 0))],
  [(66, (.if_icmp .ge 128, 69, 194, 0, 0, 0, 0)), (69, (.aload_n 0, 70, 0, 0, 0, 0, 0)), (70, (.getfield 15, 73, 9, 1, 2, 0, 0)), (73, (.iload_n 3, 74, 0, 0, 0, 0, 0)), (74, (.iaload, 75, 0, 0, 0, 0, 0)), (75, (.iconst 2, 76, 0, 0, 0, 2, 0)), (76, (.if_icmp .eq 13, 79, 89, 0, 0, 0, 0)), (79, (.aload_n 0, 80, 0, 0, 0, 0, 0))],
  [(80, (.getfield 15, 83, 9, 1, 2, 0, 0)), (83, (.iload_n 3, 84, 0, 0, 0, 0, 0)), (84, (.iaload, 85, 0, 0, 0, 0, 0)), (85, (.iconst 3, 86, 0, 0, 0, 3, 0)), (86, (.if_icmp .ne 7, 89, 93, 0, 0, 0, 0)), (89, (.iconst 1, 90, 0, 0, 0, 1, 0)), (90, (.goto 4, 93, 94, 0, 0, 0, 0)), (93, (.iconst 0, 94, 0, 0, 0, 0, 0)), (94, (.istore 4, 96, 0, 0, 0, 0, 0))],
  [(96, (.aload_n 0, 97, 0, 0, 0, 0, 0)), (97, (.getfield 173, 100, 9, 15, 1, 0, 0)), (100, (.iload_n 3, 101, 0, 0, 0, 0, 0)), (101, (.lshr, 102, 0, 0, 0, 0, 0)), (102, (.lconst 1, 103, 0, 0, 0, 0, 0)), (103, (.land, 104, 0, 0, 0, 0, 0)), (104, (.lconst 1, 105, 0, 0, 0, 0, 0)), (105, (.lcmp, 106, 0, 0, 0, 0, 0)), (106, (.ifCond .ne 82, 109, 188, 0, 0, 0, 0)), (109, (.iload 4, 111, 0, 0, 0, 0, 0)), (111, (.ifCond .ne 16, 114, 127, 0, 0, 0, 0))],
  [(114, (.aload_n 0, 115, 0, 0, 0, 0, 0)), (115, (.aload_n 0, 116, 0, 0, 0, 0, 0)), (116, (.getfield 19, 119, 9, 2, 2, 0, 0)), (119, (.iload_n 3, 120, 0, 0, 0, 0, 0)), (120, (.iaload, 121, 0, 0, 0, 0, 0)), (121, (.invokevirtual 183, 124, 152, 2, 9, 0, 0)), (124, (.ifCond .eq 64, 127, 188, 0, 0, 0, 0)), (127, (.aload_n 0, 128, 0, 0, 0, 0, 0))],
  [(128, (.getfield 15, 131, 9, 1, 2, 0, 0)), (131, (.iload_n 3, 132, 0, 0, 0, 0, 0)), (132, (.iaload, 133, 0, 0, 0, 0, 0)), (133, (.iconst 2, 134, 0, 0, 0, 2, 0)), (134, (.if_icmp .ne 7, 137, 141, 0, 0, 0, 0)), (137, (.iconst 2, 138, 0, 0, 0, 2, 0)), (138, (.goto 4, 141, 142, 0, 0, 0, 0)), (141, (.iconst 1, 142, 0, 0, 0, 1, 0)), (142, (.istore 5, 144, 0, 0, 0, 0, 0))],
  [(144, (.iload_n 1, 145, 0, 0, 0, 0, 0)), (145, (.iload_n 2, 146, 0, 0, 0, 0, 0)), (146, (.if_icmp .lt 37, 149, 183, 0, 0, 0, 0)), (149, (.iload_n 1, 150, 0, 0, 0, 0, 0)), (150, (.iload_n 2, 151, 0, 0, 0, 0, 0)), (151, (.iload 5, 153, 0, 0, 0, 0, 0)), (153, (.iadd, 154, 0, 0, 0, 0, 0)), (154, (.if_icmp .ge 29, 157, 183, 0, 0, 0, 0)), (157, (.aload_n 0, 158, 0, 0, 0, 0, 0)), (158, (.iload 5, 160, 0, 0, 0, 0, 0))],
  [(160, (.iconst 1, 161, 0, 0, 0, 1, 0)), (161, (.if_icmp .ne 7, 164, 168, 0, 0, 0, 0)), (164, (.iconst 1, 165, 0, 0, 0, 1, 0)), (165, (.goto 8, 168, 173, 0, 0, 0, 0)), (168, (.iconst 2, 169, 0, 0, 0, 2, 0)), (169, (.iload_n 1, 170, 0, 0, 0, 0, 0)), (170, (.iadd, 171, 0, 0, 0, 0, 0)), (171, (.iload_n 2, 172, 0, 0, 0, 0, 0)), (172, (.isub, 173, 0, 0, 0, 0, 0)), (173, (.putfield 186, 176, 9, 18, 0, 0, 0))],
  [(176, (.aload_n 0, 177, 0, 0, 0, 0, 0)), (177, (.iload_n 3, 178, 0, 0, 0, 0, 0)), (178, (.putfield 189, 181, 9, 19, 0, 0, 0)), (181, (.iload_n 1, 182, 0, 0, 0, 0, 0)), (182, (.ireturn, 183, 0, 0, 0, 0, 0)), (183, (.iload_n 2, 184, 0, 0, 0, 0, 0)), (184, (.iload 5, 186, 0, 0, 0, 0, 0)), (186, (.iadd, 187, 0, 0, 0, 0, 0)), (187, (.istore_n 2, 188, 0, 0, 0, 0, 0)), (188, (.iinc 3 1, 191, 0, 0, 0, 1, 0)), (191, (.goto (-130), 194, 61, 0, 0, 0, 0))],
  [(194, (.iload_n 2, 195, 0, 0, 0, 0, 0)), (195, (.ireturn, 196, 0, 0, 0, 0, 0))]]
def md_X9_findMove : mMd := (yX9_findMove, 9, cX9_findMove, 6, (some .int), mt_X9_findMove)
def mt_X9_countMoves : mTab := [[(0, (.aload_n 0, 1, 0, 0, 0, 0, 0)), (1, (.iconst (-1), 2, 0, 0, 0, (-1), 0)), (2, (.invokevirtual 192, 5, 153, 2, 9, 0, 0)), (5, (.ireturn, 6, 0, 0, 0, 0, 0))]]
def md_X9_countMoves : mMd := (yX9_countMoves, 9, cX9_countMoves, 1, (some .int), mt_X9_countMoves)
def mt_X9_isMove : mTab := [[(0, (.iload_n 1, 1, 0, 0, 0, 0, 0)), (1, (.ifCond .lt 24, 4, 25, 0, 0, 0, 0)), (4, (.iload_n 1, 5, 0, 0, 0, 0, 0)), (5, (.aload_n 0, 6, 0, 0, 0, 0, 0)), (6, (.invokevirtual 195, 9, 154, 1, 9, 0, 0)), (9, (.if_icmp .ge 16, 12, 25, 0, 0, 0, 0)), (12, (.aload_n 0, 13, 0, 0, 0, 0, 0)), (13, (.iload_n 1, 14, 0, 0, 0, 0, 0)), (14, (.invokevirtual 192, 17, 153, 2, 9, 0, 0))],
  [(17, (.iload_n 1, 18, 0, 0, 0, 0, 0)), (18, (.if_icmp .ne 7, 21, 25, 0, 0, 0, 0)), (21, (.iconst 1, 22, 0, 0, 0, 1, 0)), (22, (.goto 4, 25, 26, 0, 0, 0, 0)), (25, (.iconst 0, 26, 0, 0, 0, 0, 0)), (26, (.ireturn, 27, 0, 0, 0, 0, 0))]]
def md_X9_isMove : mMd := (yX9_isMove, 9, cX9_isMove, 2, (some .boolean), mt_X9_isMove)
def mt_X9_countReplies : mTab := [[(0, (.aload_n 0, 1, 0, 0, 0, 0, 0)), (1, (.getfield 189, 4, 9, 19, 0, 0, 0)), (4, (.istore_n 1, 5, 0, 0, 0, 0, 0)), (5, (.aload_n 0, 6, 0, 0, 0, 0, 0)), (6, (.getfield 186, 9, 9, 18, 0, 0, 0)), (9, (.ifCond .ne 9, 12, 18, 0, 0, 0, 0)), (12, (.aload_n 0, 13, 0, 0, 0, 0, 0)), (13, (.iload_n 1, 14, 0, 0, 0, 0, 0)), (14, (.invokevirtual 198, 17, 150, 2, 9, 0, 0))],
  [(17, (.ireturn, 18, 0, 0, 0, 0, 0)), (18, (.aload_n 0, 19, 0, 0, 0, 0, 0)), (19, (.getfield 15, 22, 9, 1, 2, 0, 0)), (22, (.iload_n 1, 23, 0, 0, 0, 0, 0)), (23, (.iaload, 24, 0, 0, 0, 0, 0)), (24, (.tableswitch 43 1 3 #[28, 39, 41], 52, 0, 0, 0, 0, 0))],
  [],
  [(52, (.aload_n 0, 53, 0, 0, 0, 0, 0)), (53, (.aload_n 0, 54, 0, 0, 0, 0, 0)), (54, (.getfield 19, 57, 9, 2, 2, 0, 0)), (57, (.iload_n 1, 58, 0, 0, 0, 0, 0)), (58, (.iaload, 59, 0, 0, 0, 0, 0)), (59, (.invokevirtual 198, 62, 150, 2, 9, 0, 0)), (62, (.ireturn, 63, 0, 0, 0, 0, 0)), (63, (.iconst 1, 64, 0, 0, 0, 1, 0))],
  [(64, (.ireturn, 65, 0, 0, 0, 0, 0)), (65, (.iconst 2, 66, 0, 0, 0, 2, 0)), (66, (.ireturn, 67, 0, 0, 0, 0, 0)), (67, (.aload_n 0, 68, 0, 0, 0, 0, 0)), (68, (.aload_n 0, 69, 0, 0, 0, 0, 0)), (69, (.getfield 19, 72, 9, 2, 2, 0, 0)), (72, (.iload_n 1, 73, 0, 0, 0, 0, 0)), (73, (.iaload, 74, 0, 0, 0, 0, 0)), (74, (.invokevirtual 198, 77, 150, 2, 9, 0, 0)), (77, (.iconst 1, 78, 0, 0, 0, 1, 0)), (78, (.iadd, 79, 0, 0, 0, 0, 0)), (79, (.ireturn, 80, 0, 0, 0, 0, 0))]]
def md_X9_countReplies : mMd := (yX9_countReplies, 9, cX9_countReplies, 2, (some .int), mt_X9_countReplies)
def mt_X9_reply : mTab := [[(0, (.aload_n 0, 1, 0, 0, 0, 0, 0)), (1, (.getfield 189, 4, 9, 19, 0, 0, 0)), (4, (.istore_n 2, 5, 0, 0, 0, 0, 0)), (5, (.aload_n 0, 6, 0, 0, 0, 0, 0)), (6, (.getfield 186, 9, 9, 18, 0, 0, 0)), (9, (.ifCond .ne 10, 12, 19, 0, 0, 0, 0)), (12, (.aload_n 0, 13, 0, 0, 0, 0, 0)), (13, (.iload_n 2, 14, 0, 0, 0, 0, 0)), (14, (.iload_n 1, 15, 0, 0, 0, 0, 0)), (15, (.invokevirtual 201, 18, 151, 3, 9, 0, 0))],
  [(18, (.return_, 19, 0, 0, 0, 0, 0)), (19, (.aload_n 0, 20, 0, 0, 0, 0, 0)), (20, (.getfield 15, 23, 9, 1, 2, 0, 0)), (23, (.iload_n 2, 24, 0, 0, 0, 0, 0)), (24, (.iaload, 25, 0, 0, 0, 0, 0)), (25, (.tableswitch 111 1 3 #[27, 41, 78], 52, 0, 0, 0, 0, 0))],
  [],
  [(52, (.aload_n 0, 53, 0, 0, 0, 0, 0)), (53, (.aload_n 0, 54, 0, 0, 0, 0, 0)), (54, (.getfield 19, 57, 9, 2, 2, 0, 0)), (57, (.iload_n 2, 58, 0, 0, 0, 0, 0)), (58, (.iaload, 59, 0, 0, 0, 0, 0)), (59, (.iload_n 1, 60, 0, 0, 0, 0, 0)), (60, (.invokevirtual 201, 63, 151, 3, 9, 0, 0)), (63, (.goto 118, 66, 181, 0, 0, 0, 0))],
  [(66, (.aload_n 0, 67, 0, 0, 0, 0, 0)), (67, (.dup, 68, 0, 0, 0, 0, 0)), (68, (.getfield 173, 71, 9, 15, 1, 0, 0)), (71, (.lconst 1, 72, 0, 0, 0, 0, 0)), (72, (.aload_n 0, 73, 0, 0, 0, 0, 0)), (73, (.getfield 186, 76, 9, 18, 0, 0, 0)), (76, (.iconst 2, 77, 0, 0, 0, 2, 0)), (77, (.if_icmp .ne 12, 80, 89, 0, 0, 0, 0))],
  [(80, (.aload_n 0, 81, 0, 0, 0, 0, 0)), (81, (.getfield 19, 84, 9, 2, 2, 0, 0)), (84, (.iload_n 2, 85, 0, 0, 0, 0, 0)), (85, (.iaload, 86, 0, 0, 0, 0, 0)), (86, (.goto 9, 89, 95, 0, 0, 0, 0)), (89, (.aload_n 0, 90, 0, 0, 0, 0, 0)), (90, (.getfield 22, 93, 9, 3, 2, 0, 0)), (93, (.iload_n 2, 94, 0, 0, 0, 0, 0)), (94, (.iaload, 95, 0, 0, 0, 0, 0)), (95, (.lshl, 96, 0, 0, 0, 0, 0))],
  [(96, (.lor, 97, 0, 0, 0, 0, 0)), (97, (.putfield 173, 100, 9, 15, 1, 0, 0)), (100, (.goto 81, 103, 181, 0, 0, 0, 0)), (103, (.aload_n 0, 104, 0, 0, 0, 0, 0)), (104, (.dup, 105, 0, 0, 0, 0, 0)), (105, (.getfield 173, 108, 9, 15, 1, 0, 0)), (108, (.lconst 1, 109, 0, 0, 0, 0, 0)), (109, (.iload_n 1, 110, 0, 0, 0, 0, 0)), (110, (.ifCond .ne 12, 113, 122, 0, 0, 0, 0))],
  [(113, (.aload_n 0, 114, 0, 0, 0, 0, 0)), (114, (.getfield 19, 117, 9, 2, 2, 0, 0)), (117, (.iload_n 2, 118, 0, 0, 0, 0, 0)), (118, (.iaload, 119, 0, 0, 0, 0, 0)), (119, (.goto 9, 122, 128, 0, 0, 0, 0)), (122, (.aload_n 0, 123, 0, 0, 0, 0, 0)), (123, (.getfield 22, 126, 9, 3, 2, 0, 0)), (126, (.iload_n 2, 127, 0, 0, 0, 0, 0)), (127, (.iaload, 128, 0, 0, 0, 0, 0))],
  [(128, (.lshl, 129, 0, 0, 0, 0, 0)), (129, (.lor, 130, 0, 0, 0, 0, 0)), (130, (.putfield 173, 133, 9, 15, 1, 0, 0)), (133, (.goto 48, 136, 181, 0, 0, 0, 0)), (136, (.iload_n 1, 137, 0, 0, 0, 0, 0)), (137, (.aload_n 0, 138, 0, 0, 0, 0, 0)), (138, (.aload_n 0, 139, 0, 0, 0, 0, 0)), (139, (.getfield 19, 142, 9, 2, 2, 0, 0)), (142, (.iload_n 2, 143, 0, 0, 0, 0, 0)), (143, (.iaload, 144, 0, 0, 0, 0, 0))],
  [(144, (.invokevirtual 198, 147, 150, 2, 9, 0, 0)), (147, (.if_icmp .ge 17, 150, 164, 0, 0, 0, 0)), (150, (.aload_n 0, 151, 0, 0, 0, 0, 0)), (151, (.aload_n 0, 152, 0, 0, 0, 0, 0)), (152, (.getfield 19, 155, 9, 2, 2, 0, 0)), (155, (.iload_n 2, 156, 0, 0, 0, 0, 0)), (156, (.iaload, 157, 0, 0, 0, 0, 0)), (157, (.iload_n 1, 158, 0, 0, 0, 0, 0)), (158, (.invokevirtual 201, 161, 151, 3, 9, 0, 0))],
  [(161, (.goto 20, 164, 181, 0, 0, 0, 0)), (164, (.aload_n 0, 165, 0, 0, 0, 0, 0)), (165, (.dup, 166, 0, 0, 0, 0, 0)), (166, (.getfield 173, 169, 9, 15, 1, 0, 0)), (169, (.lconst 1, 170, 0, 0, 0, 0, 0)), (170, (.aload_n 0, 171, 0, 0, 0, 0, 0)), (171, (.getfield 22, 174, 9, 3, 2, 0, 0)), (174, (.iload_n 2, 175, 0, 0, 0, 0, 0)), (175, (.iaload, 176, 0, 0, 0, 0, 0))],
  [(176, (.lshl, 177, 0, 0, 0, 0, 0)), (177, (.lor, 178, 0, 0, 0, 0, 0)), (178, (.putfield 173, 181, 9, 15, 1, 0, 0)), (181, (.return_, 182, 0, 0, 0, 0, 0))]]
def md_X9_reply : mMd := (yX9_reply, 9, cX9_reply, 3, (none : Option Jvm.ClassFile.FieldType), mt_X9_reply)
def mt_X9_placeOf : mTab := [[(0, (.iconst 0, 1, 0, 0, 0, 0, 0)), (1, (.istore 5, 3, 0, 0, 0, 0, 0)), (3, (.iload 5, 5, 0, 0, 0, 0, 0)), (5, (.aload_n 0, 6, 0, 0, 0, 0, 0)), (6, (.getfield 205, 9, 9, 23, 0, 0, 0)), (9, (.if_icmp .ge 36, 12, 45, 0, 0, 0, 0)), (12, (.aload_n 0, 13, 0, 0, 0, 0, 0)), (13, (.getfield 41, 16, 9, 20, 2, 0, 0))],
  [(16, (.iload 5, 18, 0, 0, 0, 0, 0)), (18, (.laload, 19, 0, 0, 0, 0, 0)), (19, (.lload_n 1, 20, 0, 0, 0, 0, 0)), (20, (.lcmp, 21, 0, 0, 0, 0, 0)), (21, (.ifCond .ne 18, 24, 39, 0, 0, 0, 0)), (24, (.aload_n 0, 25, 0, 0, 0, 0, 0)), (25, (.getfield 44, 28, 9, 21, 2, 0, 0)), (28, (.iload 5, 30, 0, 0, 0, 0, 0)), (30, (.laload, 31, 0, 0, 0, 0, 0)), (31, (.lload_n 3, 32, 0, 0, 0, 0, 0))],
  [(32, (.lcmp, 33, 0, 0, 0, 0, 0)), (33, (.ifCond .ne 6, 36, 39, 0, 0, 0, 0)), (36, (.iload 5, 38, 0, 0, 0, 0, 0)), (38, (.ireturn, 39, 0, 0, 0, 0, 0)), (39, (.iinc 5 1, 42, 0, 0, 0, 1, 0)), (42, (.goto (-39), 45, 3, 0, 0, 0, 0)), (45, (.bipush (-5), 47, 0, 0, 0, (-5), 0)), (47, (.ireturn, 48, 0, 0, 0, 0, 0))]]
def md_X9_placeOf : mMd := (yX9_placeOf, 9, cX9_placeOf, 6, (some .int), mt_X9_placeOf)
def mt_X9_meet : mTab := [[(0, (.aload_n 0, 1, 0, 0, 0, 0, 0)), (1, (.aload_n 0, 2, 0, 0, 0, 0, 0)), (2, (.getfield 173, 5, 9, 15, 1, 0, 0)), (5, (.aload_n 0, 6, 0, 0, 0, 0, 0)), (6, (.getfield 180, 9, 9, 16, 1, 0, 0)), (9, (.invokevirtual 208, 12, 158, 3, 9, 0, 0)), (12, (.bipush (-5), 14, 0, 0, 0, (-5), 0)), (14, (.if_icmp .ne 59, 17, 73, 0, 0, 0, 0))],
  [(17, (.aload_n 0, 18, 0, 0, 0, 0, 0)), (18, (.getfield 205, 21, 9, 23, 0, 0, 0)), (21, (.sipush 300, 24, 0, 0, 0, 300, 0)), (24, (.if_icmp .gt 49, 27, 73, 0, 0, 0, 0)), (27, (.aload_n 0, 28, 0, 0, 0, 0, 0)), (28, (.getfield 41, 31, 9, 20, 2, 0, 0)), (31, (.aload_n 0, 32, 0, 0, 0, 0, 0))],
  [(32, (.getfield 205, 35, 9, 23, 0, 0, 0)), (35, (.aload_n 0, 36, 0, 0, 0, 0, 0)), (36, (.getfield 173, 39, 9, 15, 1, 0, 0)), (39, (.lastore, 40, 0, 0, 0, 0, 0)), (40, (.aload_n 0, 41, 0, 0, 0, 0, 0)), (41, (.getfield 44, 44, 9, 21, 2, 0, 0)), (44, (.aload_n 0, 45, 0, 0, 0, 0, 0)), (45, (.getfield 205, 48, 9, 23, 0, 0, 0))],
  [(48, (.aload_n 0, 49, 0, 0, 0, 0, 0)), (49, (.getfield 180, 52, 9, 16, 1, 0, 0)), (52, (.lastore, 53, 0, 0, 0, 0, 0)), (53, (.aload_n 0, 54, 0, 0, 0, 0, 0)), (54, (.getfield 47, 57, 9, 22, 2, 0, 0)), (57, (.aload_n 0, 58, 0, 0, 0, 0, 0)), (58, (.getfield 205, 61, 9, 23, 0, 0, 0)), (61, (.iconst 0, 62, 0, 0, 0, 0, 0)), (62, (.iastore, 63, 0, 0, 0, 0, 0)), (63, (.aload_n 0, 64, 0, 0, 0, 0, 0))],
  [(64, (.dup, 65, 0, 0, 0, 0, 0)), (65, (.getfield 205, 68, 9, 23, 0, 0, 0)), (68, (.iconst 1, 69, 0, 0, 0, 1, 0)), (69, (.iadd, 70, 0, 0, 0, 0, 0)), (70, (.putfield 205, 73, 9, 23, 0, 0, 0)), (73, (.return_, 74, 0, 0, 0, 0, 0))]]
def md_X9_meet : mMd := (yX9_meet, 9, cX9_meet, 1, (none : Option Jvm.ClassFile.FieldType), mt_X9_meet)
def mt_X9_stand : mTab := [[(0, (.aload_n 0, 1, 0, 0, 0, 0, 0)), (1, (.aload_n 0, 2, 0, 0, 0, 0, 0)), (2, (.getfield 41, 5, 9, 20, 2, 0, 0)), (5, (.iload_n 1, 6, 0, 0, 0, 0, 0)), (6, (.laload, 7, 0, 0, 0, 0, 0)), (7, (.putfield 173, 10, 9, 15, 1, 0, 0)), (10, (.aload_n 0, 11, 0, 0, 0, 0, 0)), (11, (.aload_n 0, 12, 0, 0, 0, 0, 0)), (12, (.getfield 44, 15, 9, 21, 2, 0, 0)), (15, (.iload_n 1, 16, 0, 0, 0, 0, 0))],
  [(16, (.laload, 17, 0, 0, 0, 0, 0)), (17, (.putfield 180, 20, 9, 16, 1, 0, 0)), (20, (.return_, 21, 0, 0, 0, 0, 0))]]
def md_X9_stand : mMd := (yX9_stand, 9, cX9_stand, 2, (none : Option Jvm.ClassFile.FieldType), mt_X9_stand)
def mt_X9_meetAll : mTab := [[(0, (.iconst 0, 1, 0, 0, 0, 0, 0)), (1, (.istore_n 1, 2, 0, 0, 0, 0, 0)), (2, (.iload_n 1, 3, 0, 0, 0, 0, 0)), (3, (.aload_n 0, 4, 0, 0, 0, 0, 0)), (4, (.getfield 205, 7, 9, 23, 0, 0, 0)), (7, (.if_icmp .ge 100, 10, 107, 0, 0, 0, 0)), (10, (.aload_n 0, 11, 0, 0, 0, 0, 0)), (11, (.getfield 205, 14, 9, 23, 0, 0, 0)), (14, (.sipush 300, 17, 0, 0, 0, 300, 0))],
  [(17, (.if_icmp .gt 90, 20, 107, 0, 0, 0, 0)), (20, (.aload_n 0, 21, 0, 0, 0, 0, 0)), (21, (.iload_n 1, 22, 0, 0, 0, 0, 0)), (22, (.invokevirtual 212, 25, 160, 2, 9, 0, 0)), (25, (.aload_n 0, 26, 0, 0, 0, 0, 0)), (26, (.invokevirtual 195, 29, 154, 1, 9, 0, 0)), (29, (.istore_n 2, 30, 0, 0, 0, 0, 0)), (30, (.iconst 0, 31, 0, 0, 0, 0, 0)), (31, (.istore_n 3, 32, 0, 0, 0, 0, 0))],
  [(32, (.iload_n 3, 33, 0, 0, 0, 0, 0)), (33, (.iload_n 2, 34, 0, 0, 0, 0, 0)), (34, (.if_icmp .ge 67, 37, 101, 0, 0, 0, 0)), (37, (.aload_n 0, 38, 0, 0, 0, 0, 0)), (38, (.getfield 205, 41, 9, 23, 0, 0, 0)), (41, (.sipush 300, 44, 0, 0, 0, 300, 0)), (44, (.if_icmp .gt 57, 47, 101, 0, 0, 0, 0)), (47, (.aload_n 0, 48, 0, 0, 0, 0, 0))],
  [(48, (.iload_n 1, 49, 0, 0, 0, 0, 0)), (49, (.invokevirtual 212, 52, 160, 2, 9, 0, 0)), (52, (.aload_n 0, 53, 0, 0, 0, 0, 0)), (53, (.iload_n 3, 54, 0, 0, 0, 0, 0)), (54, (.invokevirtual 192, 57, 153, 2, 9, 0, 0)), (57, (.pop, 58, 0, 0, 0, 0, 0)), (58, (.aload_n 0, 59, 0, 0, 0, 0, 0)), (59, (.invokevirtual 216, 62, 156, 1, 9, 0, 0)), (62, (.istore 4, 64, 0, 0, 0, 0, 0))],
  [(64, (.iconst 0, 65, 0, 0, 0, 0, 0)), (65, (.istore 5, 67, 0, 0, 0, 0, 0)), (67, (.iload 5, 69, 0, 0, 0, 0, 0)), (69, (.iload 4, 71, 0, 0, 0, 0, 0)), (71, (.if_icmp .ge 24, 74, 95, 0, 0, 0, 0)), (74, (.aload_n 0, 75, 0, 0, 0, 0, 0)), (75, (.iload_n 1, 76, 0, 0, 0, 0, 0)), (76, (.invokevirtual 212, 79, 160, 2, 9, 0, 0)), (79, (.aload_n 0, 80, 0, 0, 0, 0, 0))],
  [(80, (.iload 5, 82, 0, 0, 0, 0, 0)), (82, (.invokevirtual 219, 85, 157, 2, 9, 0, 0)), (85, (.aload_n 0, 86, 0, 0, 0, 0, 0)), (86, (.invokevirtual 222, 89, 159, 1, 9, 0, 0)), (89, (.iinc 5 1, 92, 0, 0, 0, 1, 0)), (92, (.goto (-25), 95, 67, 0, 0, 0, 0)), (95, (.iinc 3 1, 98, 0, 0, 0, 1, 0))],
  [(98, (.goto (-66), 101, 32, 0, 0, 0, 0)), (101, (.iinc 1 1, 104, 0, 0, 0, 1, 0)), (104, (.goto (-102), 107, 2, 0, 0, 0, 0)), (107, (.aload_n 0, 108, 0, 0, 0, 0, 0)), (108, (.getfield 205, 111, 9, 23, 0, 0, 0)), (111, (.sipush 300, 114, 0, 0, 0, 300, 0))],
  [(114, (.if_icmp .gt 7, 117, 121, 0, 0, 0, 0)), (117, (.iconst 1, 118, 0, 0, 0, 1, 0)), (118, (.goto 4, 121, 122, 0, 0, 0, 0)), (121, (.iconst 0, 122, 0, 0, 0, 0, 0)), (122, (.ireturn, 123, 0, 0, 0, 0, 0))]]
def md_X9_meetAll : mMd := (yX9_meetAll, 9, cX9_meetAll, 6, (some .boolean), mt_X9_meetAll)
def mt_X9_rankBy : mTab := [[(0, (.aload_n 0, 1, 0, 0, 0, 0, 0)), (1, (.iload_n 1, 2, 0, 0, 0, 0, 0)), (2, (.invokevirtual 212, 5, 160, 2, 9, 0, 0)), (5, (.aload_n 0, 6, 0, 0, 0, 0, 0)), (6, (.iload_n 2, 7, 0, 0, 0, 0, 0)), (7, (.invokevirtual 192, 10, 153, 2, 9, 0, 0)), (10, (.pop, 11, 0, 0, 0, 0, 0)), (11, (.aload_n 0, 12, 0, 0, 0, 0, 0)), (12, (.invokevirtual 216, 15, 156, 1, 9, 0, 0)), (15, (.istore_n 3, 16, 0, 0, 0, 0, 0))],
  [(16, (.iconst 0, 17, 0, 0, 0, 0, 0)), (17, (.istore 4, 19, 0, 0, 0, 0, 0)), (19, (.iconst 0, 20, 0, 0, 0, 0, 0)), (20, (.istore 5, 22, 0, 0, 0, 0, 0)), (22, (.iload 5, 24, 0, 0, 0, 0, 0)), (24, (.iload_n 3, 25, 0, 0, 0, 0, 0)), (25, (.if_icmp .ge 55, 28, 80, 0, 0, 0, 0)), (28, (.aload_n 0, 29, 0, 0, 0, 0, 0)), (29, (.iload_n 1, 30, 0, 0, 0, 0, 0)), (30, (.invokevirtual 212, 33, 160, 2, 9, 0, 0))],
  [(33, (.aload_n 0, 34, 0, 0, 0, 0, 0)), (34, (.iload 5, 36, 0, 0, 0, 0, 0)), (36, (.invokevirtual 219, 39, 157, 2, 9, 0, 0)), (39, (.aload_n 0, 40, 0, 0, 0, 0, 0)), (40, (.getfield 47, 43, 9, 22, 2, 0, 0)), (43, (.aload_n 0, 44, 0, 0, 0, 0, 0)), (44, (.aload_n 0, 45, 0, 0, 0, 0, 0)), (45, (.getfield 173, 48, 9, 15, 1, 0, 0))],
  [(48, (.aload_n 0, 49, 0, 0, 0, 0, 0)), (49, (.getfield 180, 52, 9, 16, 1, 0, 0)), (52, (.invokevirtual 208, 55, 158, 3, 9, 0, 0)), (55, (.iaload, 56, 0, 0, 0, 0, 0)), (56, (.istore 6, 58, 0, 0, 0, 0, 0)), (58, (.iload 6, 60, 0, 0, 0, 0, 0)), (60, (.ifCond .ne 5, 63, 65, 0, 0, 0, 0)), (63, (.iconst 0, 64, 0, 0, 0, 0, 0))],
  [(64, (.ireturn, 65, 0, 0, 0, 0, 0)), (65, (.iload 4, 67, 0, 0, 0, 0, 0)), (67, (.iload 6, 69, 0, 0, 0, 0, 0)), (69, (.invokestatic 155, 72, 193, 2, 0, 0, 0)), (72, (.istore 4, 74, 0, 0, 0, 0, 0)), (74, (.iinc 5 1, 77, 0, 0, 0, 1, 0)), (77, (.goto (-55), 80, 22, 0, 0, 0, 0))],
  [(80, (.iload 4, 82, 0, 0, 0, 0, 0)), (82, (.iconst 1, 83, 0, 0, 0, 1, 0)), (83, (.iadd, 84, 0, 0, 0, 0, 0)), (84, (.ireturn, 85, 0, 0, 0, 0, 0))]]
def md_X9_rankBy : mMd := (yX9_rankBy, 9, cX9_rankBy, 7, (some .int), mt_X9_rankBy)
def mt_X9_rankAll : mTab := [[(0, (.iconst 1, 1, 0, 0, 0, 1, 0)), (1, (.istore_n 1, 2, 0, 0, 0, 0, 0)), (2, (.iconst 1, 3, 0, 0, 0, 1, 0)), (3, (.istore_n 2, 4, 0, 0, 0, 0, 0)), (4, (.iload_n 1, 5, 0, 0, 0, 0, 0)), (5, (.ifCond .eq 100, 8, 105, 0, 0, 0, 0)), (8, (.iconst 0, 9, 0, 0, 0, 0, 0)), (9, (.istore_n 1, 10, 0, 0, 0, 0, 0)), (10, (.iconst 0, 11, 0, 0, 0, 0, 0)), (11, (.istore_n 3, 12, 0, 0, 0, 0, 0)), (12, (.iload_n 3, 13, 0, 0, 0, 0, 0)), (13, (.aload_n 0, 14, 0, 0, 0, 0, 0)), (14, (.getfield 205, 17, 9, 23, 0, 0, 0))],
  [(17, (.if_icmp .ge 82, 20, 99, 0, 0, 0, 0)), (20, (.aload_n 0, 21, 0, 0, 0, 0, 0)), (21, (.iload_n 3, 22, 0, 0, 0, 0, 0)), (22, (.invokevirtual 212, 25, 160, 2, 9, 0, 0)), (25, (.aload_n 0, 26, 0, 0, 0, 0, 0)), (26, (.getfield 47, 29, 9, 22, 2, 0, 0)), (29, (.iload_n 3, 30, 0, 0, 0, 0, 0)), (30, (.iaload, 31, 0, 0, 0, 0, 0)), (31, (.ifCond .ne 10, 34, 41, 0, 0, 0, 0))],
  [(34, (.aload_n 0, 35, 0, 0, 0, 0, 0)), (35, (.invokevirtual 195, 38, 154, 1, 9, 0, 0)), (38, (.goto 4, 41, 42, 0, 0, 0, 0)), (41, (.iconst 0, 42, 0, 0, 0, 0, 0)), (42, (.istore 4, 44, 0, 0, 0, 0, 0)), (44, (.iconst 0, 45, 0, 0, 0, 0, 0)), (45, (.istore 5, 47, 0, 0, 0, 0, 0)), (47, (.iload 5, 49, 0, 0, 0, 0, 0))],
  [(49, (.iload 4, 51, 0, 0, 0, 0, 0)), (51, (.if_icmp .ge 42, 54, 93, 0, 0, 0, 0)), (54, (.aload_n 0, 55, 0, 0, 0, 0, 0)), (55, (.getfield 47, 58, 9, 22, 2, 0, 0)), (58, (.iload_n 3, 59, 0, 0, 0, 0, 0)), (59, (.iaload, 60, 0, 0, 0, 0, 0)), (60, (.ifCond .ne 33, 63, 93, 0, 0, 0, 0)), (63, (.aload_n 0, 64, 0, 0, 0, 0, 0))],
  [(64, (.iload_n 3, 65, 0, 0, 0, 0, 0)), (65, (.iload 5, 67, 0, 0, 0, 0, 0)), (67, (.invokevirtual 225, 70, 162, 3, 9, 0, 0)), (70, (.istore 6, 72, 0, 0, 0, 0, 0)), (72, (.iload 6, 74, 0, 0, 0, 0, 0)), (74, (.iload_n 2, 75, 0, 0, 0, 0, 0)), (75, (.if_icmp .ne 12, 78, 87, 0, 0, 0, 0)), (78, (.aload_n 0, 79, 0, 0, 0, 0, 0)), (79, (.getfield 47, 82, 9, 22, 2, 0, 0))],
  [(82, (.iload_n 3, 83, 0, 0, 0, 0, 0)), (83, (.iload_n 2, 84, 0, 0, 0, 0, 0)), (84, (.iastore, 85, 0, 0, 0, 0, 0)), (85, (.iconst 1, 86, 0, 0, 0, 1, 0)), (86, (.istore_n 1, 87, 0, 0, 0, 0, 0)), (87, (.iinc 5 1, 90, 0, 0, 0, 1, 0)), (90, (.goto (-43), 93, 47, 0, 0, 0, 0)), (93, (.iinc 3 1, 96, 0, 0, 0, 1, 0))],
  [(96, (.goto (-84), 99, 12, 0, 0, 0, 0)), (99, (.iinc 2 1, 102, 0, 0, 0, 1, 0)), (102, (.goto (-98), 105, 4, 0, 0, 0, 0)), (105, (.return_, 106, 0, 0, 0, 0, 0))]]
def md_X9_rankAll : mMd := (yX9_rankAll, 9, cX9_rankAll, 7, (none : Option Jvm.ClassFile.FieldType), mt_X9_rankAll)
def mt_X9_meetAfter : mTab := [[(0, (.aload_n 0, 1, 0, 0, 0, 0, 0)), (1, (.iconst 0, 2, 0, 0, 0, 0, 0)), (2, (.putfield 205, 5, 9, 23, 0, 0, 0)), (5, (.iconst 0, 6, 0, 0, 0, 0, 0)), (6, (.istore_n 2, 7, 0, 0, 0, 0, 0)), (7, (.iload_n 2, 8, 0, 0, 0, 0, 0)), (8, (.aload_n 0, 9, 0, 0, 0, 0, 0)), (9, (.iload_n 1, 10, 0, 0, 0, 0, 0)), (10, (.invokevirtual 198, 13, 150, 2, 9, 0, 0)), (13, (.if_icmp .ge 29, 16, 42, 0, 0, 0, 0))],
  [(16, (.aload_n 0, 17, 0, 0, 0, 0, 0)), (17, (.lconst 0, 18, 0, 0, 0, 0, 0)), (18, (.putfield 173, 21, 9, 15, 1, 0, 0)), (21, (.aload_n 0, 22, 0, 0, 0, 0, 0)), (22, (.lconst 0, 23, 0, 0, 0, 0, 0)), (23, (.putfield 180, 26, 9, 16, 1, 0, 0)), (26, (.aload_n 0, 27, 0, 0, 0, 0, 0)), (27, (.iload_n 1, 28, 0, 0, 0, 0, 0)), (28, (.iload_n 2, 29, 0, 0, 0, 0, 0)), (29, (.invokevirtual 201, 32, 151, 3, 9, 0, 0))],
  [(32, (.aload_n 0, 33, 0, 0, 0, 0, 0)), (33, (.invokevirtual 222, 36, 159, 1, 9, 0, 0)), (36, (.iinc 2 1, 39, 0, 0, 0, 1, 0)), (39, (.goto (-32), 42, 7, 0, 0, 0, 0)), (42, (.aload_n 0, 43, 0, 0, 0, 0, 0)), (43, (.invokevirtual 228, 46, 161, 1, 9, 0, 0)), (46, (.ireturn, 47, 0, 0, 0, 0, 0))]]
def md_X9_meetAfter : mMd := (yX9_meetAfter, 9, cX9_meetAfter, 3, (some .boolean), mt_X9_meetAfter)
def mt_X9_rankOf : mTab := [[(0, (.aload_n 0, 1, 0, 0, 0, 0, 0)), (1, (.getfield 177, 4, 9, 17, 0, 0, 0)), (4, (.istore_n 3, 5, 0, 0, 0, 0, 0)), (5, (.aload_n 0, 6, 0, 0, 0, 0, 0)), (6, (.iload_n 2, 7, 0, 0, 0, 0, 0)), (7, (.putfield 177, 10, 9, 17, 0, 0, 0)), (10, (.bipush (-6), 12, 0, 0, 0, (-6), 0)), (12, (.istore 4, 14, 0, 0, 0, 0, 0)), (14, (.aload_n 0, 15, 0, 0, 0, 0, 0)), (15, (.iload_n 1, 16, 0, 0, 0, 0, 0))],
  [(16, (.invokevirtual 232, 19, 164, 2, 9, 0, 0)), (19, (.ifCond .eq 104, 22, 123, 0, 0, 0, 0)), (22, (.aload_n 0, 23, 0, 0, 0, 0, 0)), (23, (.invokevirtual 235, 26, 163, 1, 9, 0, 0)), (26, (.aload_n 0, 27, 0, 0, 0, 0, 0)), (27, (.iload_n 1, 28, 0, 0, 0, 0, 0)), (28, (.invokevirtual 198, 31, 150, 2, 9, 0, 0)), (31, (.ifCond .ne 8, 34, 39, 0, 0, 0, 0))],
  [(34, (.bipush (-5), 36, 0, 0, 0, (-5), 0)), (36, (.goto 4, 39, 40, 0, 0, 0, 0)), (39, (.iconst 0, 40, 0, 0, 0, 0, 0)), (40, (.istore 4, 42, 0, 0, 0, 0, 0)), (42, (.iconst 0, 43, 0, 0, 0, 0, 0)), (43, (.istore 5, 45, 0, 0, 0, 0, 0)), (45, (.iload 5, 47, 0, 0, 0, 0, 0)), (47, (.aload_n 0, 48, 0, 0, 0, 0, 0))],
  [(48, (.iload_n 1, 49, 0, 0, 0, 0, 0)), (49, (.invokevirtual 198, 52, 150, 2, 9, 0, 0)), (52, (.if_icmp .ge 71, 55, 123, 0, 0, 0, 0)), (55, (.iload 4, 57, 0, 0, 0, 0, 0)), (57, (.bipush (-5), 59, 0, 0, 0, (-5), 0)), (59, (.if_icmp .eq 64, 62, 123, 0, 0, 0, 0)), (62, (.aload_n 0, 63, 0, 0, 0, 0, 0)), (63, (.lconst 0, 64, 0, 0, 0, 0, 0))],
  [(64, (.putfield 173, 67, 9, 15, 1, 0, 0)), (67, (.aload_n 0, 68, 0, 0, 0, 0, 0)), (68, (.lconst 0, 69, 0, 0, 0, 0, 0)), (69, (.putfield 180, 72, 9, 16, 1, 0, 0)), (72, (.aload_n 0, 73, 0, 0, 0, 0, 0)), (73, (.iload_n 1, 74, 0, 0, 0, 0, 0)), (74, (.iload 5, 76, 0, 0, 0, 0, 0)), (76, (.invokevirtual 201, 79, 151, 3, 9, 0, 0)), (79, (.aload_n 0, 80, 0, 0, 0, 0, 0))],
  [(80, (.getfield 47, 83, 9, 22, 2, 0, 0)), (83, (.aload_n 0, 84, 0, 0, 0, 0, 0)), (84, (.aload_n 0, 85, 0, 0, 0, 0, 0)), (85, (.getfield 173, 88, 9, 15, 1, 0, 0)), (88, (.aload_n 0, 89, 0, 0, 0, 0, 0)), (89, (.getfield 180, 92, 9, 16, 1, 0, 0)), (92, (.invokevirtual 208, 95, 158, 3, 9, 0, 0)), (95, (.iaload, 96, 0, 0, 0, 0, 0))],
  [(96, (.istore 6, 98, 0, 0, 0, 0, 0)), (98, (.iload 6, 100, 0, 0, 0, 0, 0)), (100, (.ifCond .ne 8, 103, 108, 0, 0, 0, 0)), (103, (.bipush (-5), 105, 0, 0, 0, (-5), 0)), (105, (.goto 10, 108, 115, 0, 0, 0, 0)), (108, (.iload 4, 110, 0, 0, 0, 0, 0)), (110, (.iload 6, 112, 0, 0, 0, 0, 0))],
  [(112, (.invokestatic 155, 115, 193, 2, 0, 0, 0)), (115, (.istore 4, 117, 0, 0, 0, 0, 0)), (117, (.iinc 5 1, 120, 0, 0, 0, 1, 0)), (120, (.goto (-75), 123, 45, 0, 0, 0, 0)), (123, (.aload_n 0, 124, 0, 0, 0, 0, 0)), (124, (.iload_n 3, 125, 0, 0, 0, 0, 0)), (125, (.putfield 177, 128, 9, 17, 0, 0, 0))],
  [(128, (.iload 4, 130, 0, 0, 0, 0, 0)), (130, (.ireturn, 131, 0, 0, 0, 0, 0))]]
def md_X9_rankOf : mMd := (yX9_rankOf, 9, cX9_rankOf, 7, (some .int), mt_X9_rankOf)
def mt_X9_isManner : mTab := [[(0, (.iload_n 0, 1, 0, 0, 0, 0, 0)), (1, (.ifCond .eq 8, 4, 9, 0, 0, 0, 0)), (4, (.iload_n 0, 5, 0, 0, 0, 0, 0)), (5, (.iconst 1, 6, 0, 0, 0, 1, 0)), (6, (.if_icmp .ne 7, 9, 13, 0, 0, 0, 0)), (9, (.iconst 1, 10, 0, 0, 0, 1, 0)), (10, (.goto 4, 13, 14, 0, 0, 0, 0)), (13, (.iconst 0, 14, 0, 0, 0, 0, 0)), (14, (.ireturn, 15, 0, 0, 0, 0, 0))]]
def md_X9_isManner : mMd := (yX9_isManner, 9, cX9_isManner, 1, (some .boolean), mt_X9_isManner)
def mt_X9_rank : mTab := [[(0, (.aload_n 0, 1, 0, 0, 0, 0, 0)), (1, (.iload_n 1, 2, 0, 0, 0, 0, 0)), (2, (.invokevirtual 133, 5, 119, 2, 9, 0, 0)), (5, (.ifCond .ne 8, 8, 13, 0, 0, 0, 0)), (8, (.bipush (-2), 10, 0, 0, 0, (-2), 0)), (10, (.goto 20, 13, 30, 0, 0, 0, 0)), (13, (.iload_n 2, 14, 0, 0, 0, 0, 0)), (14, (.invokestatic 238, 17, 166, 1, 0, 0, 0))],
  [(17, (.ifCond .ne 7, 20, 24, 0, 0, 0, 0)), (20, (.iconst (-1), 21, 0, 0, 0, (-1), 0)), (21, (.goto 9, 24, 30, 0, 0, 0, 0)), (24, (.aload_n 0, 25, 0, 0, 0, 0, 0)), (25, (.iload_n 1, 26, 0, 0, 0, 0, 0)), (26, (.iload_n 2, 27, 0, 0, 0, 0, 0)), (27, (.invokevirtual 241, 30, 165, 3, 9, 0, 0)), (30, (.ireturn, 31, 0, 0, 0, 0, 0))]]
def md_X9_rank : mMd := (yX9_rank, 9, cX9_rank, 3, (some .int), mt_X9_rank)
def mt_X9_positionCount : mTab := [[(0, (.aload_n 0, 1, 0, 0, 0, 0, 0)), (1, (.iload_n 1, 2, 0, 0, 0, 0, 0)), (2, (.invokevirtual 133, 5, 119, 2, 9, 0, 0)), (5, (.ifCond .ne 6, 8, 11, 0, 0, 0, 0)), (8, (.bipush (-2), 10, 0, 0, 0, (-2), 0)), (10, (.ireturn, 11, 0, 0, 0, 0, 0)), (11, (.iload_n 2, 12, 0, 0, 0, 0, 0)), (12, (.invokestatic 238, 15, 166, 1, 0, 0, 0)), (15, (.ifCond .ne 5, 18, 20, 0, 0, 0, 0))],
  [(18, (.iconst (-1), 19, 0, 0, 0, (-1), 0)), (19, (.ireturn, 20, 0, 0, 0, 0, 0)), (20, (.aload_n 0, 21, 0, 0, 0, 0, 0)), (21, (.getfield 177, 24, 9, 17, 0, 0, 0)), (24, (.istore_n 3, 25, 0, 0, 0, 0, 0)), (25, (.aload_n 0, 26, 0, 0, 0, 0, 0)), (26, (.iload_n 2, 27, 0, 0, 0, 0, 0)), (27, (.putfield 177, 30, 9, 17, 0, 0, 0)), (30, (.aload_n 0, 31, 0, 0, 0, 0, 0)), (31, (.iload_n 1, 32, 0, 0, 0, 0, 0))],
  [(32, (.invokevirtual 232, 35, 164, 2, 9, 0, 0)), (35, (.istore 4, 37, 0, 0, 0, 0, 0)), (37, (.aload_n 0, 38, 0, 0, 0, 0, 0)), (38, (.iload_n 3, 39, 0, 0, 0, 0, 0)), (39, (.putfield 177, 42, 9, 17, 0, 0, 0)), (42, (.iload 4, 44, 0, 0, 0, 0, 0)), (44, (.ifCond .eq 10, 47, 54, 0, 0, 0, 0)), (47, (.aload_n 0, 48, 0, 0, 0, 0, 0))],
  [(48, (.getfield 205, 51, 9, 23, 0, 0, 0)), (51, (.goto 5, 54, 56, 0, 0, 0, 0)), (54, (.bipush (-6), 56, 0, 0, 0, (-6), 0)), (56, (.ireturn, 57, 0, 0, 0, 0, 0))]]
def md_X9_positionCount : mMd := (yX9_positionCount, 9, cX9_positionCount, 5, (some .int), mt_X9_positionCount)
def mt_X9_manners : mTab := [[(0, (.aload_n 0, 1, 0, 0, 0, 0, 0)), (1, (.iload_n 1, 2, 0, 0, 0, 0, 0)), (2, (.invokevirtual 133, 5, 119, 2, 9, 0, 0)), (5, (.ifCond .ne 6, 8, 11, 0, 0, 0, 0)), (8, (.bipush (-2), 10, 0, 0, 0, (-2), 0)), (10, (.ireturn, 11, 0, 0, 0, 0, 0)), (11, (.aload_n 0, 12, 0, 0, 0, 0, 0)), (12, (.iload_n 1, 13, 0, 0, 0, 0, 0)), (13, (.iconst 1, 14, 0, 0, 0, 1, 0)), (14, (.invokevirtual 241, 17, 165, 3, 9, 0, 0))],
  [(17, (.istore_n 2, 18, 0, 0, 0, 0, 0)), (18, (.aload_n 0, 19, 0, 0, 0, 0, 0)), (19, (.iload_n 1, 20, 0, 0, 0, 0, 0)), (20, (.iconst 0, 21, 0, 0, 0, 0, 0)), (21, (.invokevirtual 241, 24, 165, 3, 9, 0, 0)), (24, (.istore_n 3, 25, 0, 0, 0, 0, 0)), (25, (.iload_n 2, 26, 0, 0, 0, 0, 0)), (26, (.bipush (-6), 28, 0, 0, 0, (-6), 0)), (28, (.if_icmp .eq 9, 31, 37, 0, 0, 0, 0)), (31, (.iload_n 3, 32, 0, 0, 0, 0, 0))],
  [(32, (.bipush (-6), 34, 0, 0, 0, (-6), 0)), (34, (.if_icmp .ne 6, 37, 40, 0, 0, 0, 0)), (37, (.bipush (-6), 39, 0, 0, 0, (-6), 0)), (39, (.ireturn, 40, 0, 0, 0, 0, 0)), (40, (.iload_n 2, 41, 0, 0, 0, 0, 0)), (41, (.ifCond .le 7, 44, 48, 0, 0, 0, 0)), (44, (.iconst 1, 45, 0, 0, 0, 1, 0)), (45, (.goto 4, 48, 49, 0, 0, 0, 0))],
  [(48, (.iconst 0, 49, 0, 0, 0, 0, 0)), (49, (.iload_n 3, 50, 0, 0, 0, 0, 0)), (50, (.ifCond .le 7, 53, 57, 0, 0, 0, 0)), (53, (.iconst 2, 54, 0, 0, 0, 2, 0)), (54, (.goto 4, 57, 58, 0, 0, 0, 0)), (57, (.iconst 0, 58, 0, 0, 0, 0, 0)), (58, (.iadd, 59, 0, 0, 0, 0, 0)), (59, (.ireturn, 60, 0, 0, 0, 0, 0))]]
def md_X9_manners : mMd := (yX9_manners, 9, cX9_manners, 4, (some .int), mt_X9_manners)
def mt_X9_isPlaying : mTab := [[(0, (.aload_n 0, 1, 0, 0, 0, 0, 0)), (1, (.getfield 83, 4, 9, 24, 3, 0, 0)), (4, (.ifCond .eq 14, 7, 18, 0, 0, 0, 0)), (7, (.aload_n 0, 8, 0, 0, 0, 0, 0)), (8, (.getfield 244, 11, 9, 25, 3, 0, 0)), (11, (.ifCond .ne 7, 14, 18, 0, 0, 0, 0)), (14, (.iconst 1, 15, 0, 0, 0, 1, 0)), (15, (.goto 4, 18, 19, 0, 0, 0, 0))],
  [(18, (.iconst 0, 19, 0, 0, 0, 0, 0)), (19, (.ireturn, 20, 0, 0, 0, 0, 0))]]
def md_X9_isPlaying : mMd := (yX9_isPlaying, 9, cX9_isPlaying, 1, (some .boolean), mt_X9_isPlaying)
def mt_X9_now : mTab := [[(0, (.aload_n 0, 1, 0, 0, 0, 0, 0)), (1, (.aload_n 0, 2, 0, 0, 0, 0, 0)), (2, (.getfield 50, 5, 9, 27, 2, 0, 0)), (5, (.aload_n 0, 6, 0, 0, 0, 0, 0)), (6, (.getfield 247, 9, 9, 26, 0, 0, 0)), (9, (.laload, 10, 0, 0, 0, 0, 0)), (10, (.putfield 173, 13, 9, 15, 1, 0, 0)), (13, (.aload_n 0, 14, 0, 0, 0, 0, 0)), (14, (.aload_n 0, 15, 0, 0, 0, 0, 0)), (15, (.getfield 53, 18, 9, 28, 2, 0, 0))],
  [(18, (.aload_n 0, 19, 0, 0, 0, 0, 0)), (19, (.getfield 247, 22, 9, 26, 0, 0, 0)), (22, (.laload, 23, 0, 0, 0, 0, 0)), (23, (.putfield 180, 26, 9, 16, 1, 0, 0)), (26, (.return_, 27, 0, 0, 0, 0, 0))]]
def md_X9_now : mMd := (yX9_now, 9, cX9_now, 1, (none : Option Jvm.ClassFile.FieldType), mt_X9_now)
def mt_X9_start : mTab := [[(0, (.aload_n 0, 1, 0, 0, 0, 0, 0)), (1, (.iload_n 2, 2, 0, 0, 0, 0, 0)), (2, (.putfield 177, 5, 9, 17, 0, 0, 0)), (5, (.aload_n 0, 6, 0, 0, 0, 0, 0)), (6, (.lconst 0, 7, 0, 0, 0, 0, 0)), (7, (.putfield 173, 10, 9, 15, 1, 0, 0)), (10, (.aload_n 0, 11, 0, 0, 0, 0, 0)), (11, (.lconst 0, 12, 0, 0, 0, 0, 0)), (12, (.putfield 180, 15, 9, 16, 1, 0, 0)), (15, (.aload_n 0, 16, 0, 0, 0, 0, 0))],
  [(16, (.iload_n 1, 17, 0, 0, 0, 0, 0)), (17, (.iload_n 3, 18, 0, 0, 0, 0, 0)), (18, (.invokevirtual 201, 21, 151, 3, 9, 0, 0)), (21, (.aload_n 0, 22, 0, 0, 0, 0, 0)), (22, (.iconst 1, 23, 0, 0, 0, 1, 0)), (23, (.putfield 83, 26, 9, 24, 3, 0, 0)), (26, (.aload_n 0, 27, 0, 0, 0, 0, 0)), (27, (.iconst 0, 28, 0, 0, 0, 0, 0)), (28, (.putfield 244, 31, 9, 25, 3, 0, 0)), (31, (.aload_n 0, 32, 0, 0, 0, 0, 0))],
  [(32, (.iconst 0, 33, 0, 0, 0, 0, 0)), (33, (.putfield 247, 36, 9, 26, 0, 0, 0)), (36, (.aload_n 0, 37, 0, 0, 0, 0, 0)), (37, (.getfield 50, 40, 9, 27, 2, 0, 0)), (40, (.iconst 0, 41, 0, 0, 0, 0, 0)), (41, (.aload_n 0, 42, 0, 0, 0, 0, 0)), (42, (.getfield 173, 45, 9, 15, 1, 0, 0)), (45, (.lastore, 46, 0, 0, 0, 0, 0)), (46, (.aload_n 0, 47, 0, 0, 0, 0, 0)), (47, (.getfield 53, 50, 9, 28, 2, 0, 0))],
  [(50, (.iconst 0, 51, 0, 0, 0, 0, 0)), (51, (.aload_n 0, 52, 0, 0, 0, 0, 0)), (52, (.getfield 180, 55, 9, 16, 1, 0, 0)), (55, (.lastore, 56, 0, 0, 0, 0, 0)), (56, (.return_, 57, 0, 0, 0, 0, 0))]]
def md_X9_start : mMd := (yX9_start, 9, cX9_start, 4, (none : Option Jvm.ClassFile.FieldType), mt_X9_start)
def mt_X9_begin : mTab := [[(0, (.aload_n 0, 1, 0, 0, 0, 0, 0)), (1, (.iload_n 1, 2, 0, 0, 0, 0, 0)), (2, (.invokevirtual 133, 5, 119, 2, 9, 0, 0)), (5, (.ifCond .ne 6, 8, 11, 0, 0, 0, 0)), (8, (.bipush (-2), 10, 0, 0, 0, (-2), 0)), (10, (.ireturn, 11, 0, 0, 0, 0, 0)), (11, (.iload_n 2, 12, 0, 0, 0, 0, 0)), (12, (.invokestatic 238, 15, 166, 1, 0, 0, 0)), (15, (.ifCond .eq 18, 18, 33, 0, 0, 0, 0))],
  [(18, (.iload_n 3, 19, 0, 0, 0, 0, 0)), (19, (.iconst 0, 20, 0, 0, 0, 0, 0)), (20, (.aload_n 0, 21, 0, 0, 0, 0, 0)), (21, (.iload_n 1, 22, 0, 0, 0, 0, 0)), (22, (.invokevirtual 198, 25, 150, 2, 9, 0, 0)), (25, (.iconst 1, 26, 0, 0, 0, 1, 0)), (26, (.isub, 27, 0, 0, 0, 0, 0)), (27, (.invokestatic 75, 30, 118, 3, 0, 0, 0)), (30, (.ifCond .ne 5, 33, 35, 0, 0, 0, 0))],
  [(33, (.iconst (-1), 34, 0, 0, 0, (-1), 0)), (34, (.ireturn, 35, 0, 0, 0, 0, 0)), (35, (.aload_n 0, 36, 0, 0, 0, 0, 0)), (36, (.iload_n 1, 37, 0, 0, 0, 0, 0)), (37, (.iload_n 2, 38, 0, 0, 0, 0, 0)), (38, (.iload_n 3, 39, 0, 0, 0, 0, 0)), (39, (.invokevirtual 250, 42, 172, 4, 9, 0, 0)), (42, (.aload_n 0, 43, 0, 0, 0, 0, 0)), (43, (.invokevirtual 195, 46, 154, 1, 9, 0, 0)), (46, (.ireturn, 47, 0, 0, 0, 0, 0))]]
def md_X9_begin : mMd := (yX9_begin, 9, cX9_begin, 4, (some .int), mt_X9_begin)
def mt_X9_claims : mTab := [[(0, (.aload_n 0, 1, 0, 0, 0, 0, 0)), (1, (.invokevirtual 254, 4, 170, 1, 9, 0, 0)), (4, (.ifCond .eq 15, 7, 19, 0, 0, 0, 0)), (7, (.aload_n 0, 8, 0, 0, 0, 0, 0)), (8, (.getfield 50, 11, 9, 27, 2, 0, 0)), (11, (.aload_n 0, 12, 0, 0, 0, 0, 0)), (12, (.getfield 247, 15, 9, 26, 0, 0, 0)), (15, (.laload, 16, 0, 0, 0, 0, 0))],
  [(16, (.goto 6, 19, 22, 0, 0, 0, 0)), (19, (.ldc2_w 142, 22, 0, 0, 0, 0, (-9223372036854775808))), (22, (.lreturn, 23, 0, 0, 0, 0, 0))]]
def md_X9_claims : mMd := (yX9_claims, 9, cX9_claims, 1, (some .long), mt_X9_claims)
def mt_X9_defences : mTab := [[(0, (.aload_n 0, 1, 0, 0, 0, 0, 0)), (1, (.invokevirtual 254, 4, 170, 1, 9, 0, 0)), (4, (.ifCond .eq 15, 7, 19, 0, 0, 0, 0)), (7, (.aload_n 0, 8, 0, 0, 0, 0, 0)), (8, (.getfield 53, 11, 9, 28, 2, 0, 0)), (11, (.aload_n 0, 12, 0, 0, 0, 0, 0)), (12, (.getfield 247, 15, 9, 26, 0, 0, 0)), (15, (.laload, 16, 0, 0, 0, 0, 0))],
  [(16, (.goto 6, 19, 22, 0, 0, 0, 0)), (19, (.ldc2_w 142, 22, 0, 0, 0, 0, (-9223372036854775808))), (22, (.lreturn, 23, 0, 0, 0, 0, 0))]]
def md_X9_defences : mMd := (yX9_defences, 9, cX9_defences, 1, (some .long), mt_X9_defences)
def mt_X9_moveCount : mTab := [[(0, (.aload_n 0, 1, 0, 0, 0, 0, 0)), (1, (.invokevirtual 254, 4, 170, 1, 9, 0, 0)), (4, (.ifCond .ne 6, 7, 10, 0, 0, 0, 0)), (7, (.bipush (-7), 9, 0, 0, 0, (-7), 0)), (9, (.ireturn, 10, 0, 0, 0, 0, 0)), (10, (.aload_n 0, 11, 0, 0, 0, 0, 0)), (11, (.invokevirtual 257, 14, 171, 1, 9, 0, 0)), (14, (.aload_n 0, 15, 0, 0, 0, 0, 0)), (15, (.invokevirtual 195, 18, 154, 1, 9, 0, 0))],
  [(18, (.ireturn, 19, 0, 0, 0, 0, 0))]]
def md_X9_moveCount : mMd := (yX9_moveCount, 9, cX9_moveCount, 1, (some .int), mt_X9_moveCount)
def mt_X9_move : mTab := [[(0, (.aload_n 0, 1, 0, 0, 0, 0, 0)), (1, (.invokevirtual 254, 4, 170, 1, 9, 0, 0)), (4, (.ifCond .ne 6, 7, 10, 0, 0, 0, 0)), (7, (.bipush (-7), 9, 0, 0, 0, (-7), 0)), (9, (.ireturn, 10, 0, 0, 0, 0, 0)), (10, (.iload_n 2, 11, 0, 0, 0, 0, 0)), (11, (.iconst 0, 12, 0, 0, 0, 0, 0)), (12, (.iconst 2, 13, 0, 0, 0, 2, 0)), (13, (.invokestatic 75, 16, 118, 3, 0, 0, 0))],
  [(16, (.ifCond .ne 5, 19, 21, 0, 0, 0, 0)), (19, (.iconst (-1), 20, 0, 0, 0, (-1), 0)), (20, (.ireturn, 21, 0, 0, 0, 0, 0)), (21, (.aload_n 0, 22, 0, 0, 0, 0, 0)), (22, (.invokevirtual 257, 25, 171, 1, 9, 0, 0)), (25, (.aload_n 0, 26, 0, 0, 0, 0, 0)), (26, (.iload_n 1, 27, 0, 0, 0, 0, 0)), (27, (.invokevirtual 260, 30, 155, 2, 9, 0, 0)), (30, (.ifCond .ne 6, 33, 36, 0, 0, 0, 0))],
  [(33, (.bipush (-5), 35, 0, 0, 0, (-5), 0)), (35, (.ireturn, 36, 0, 0, 0, 0, 0)), (36, (.iload_n 2, 37, 0, 0, 0, 0, 0)), (37, (.ifCond .ne 10, 40, 47, 0, 0, 0, 0)), (40, (.aload_n 0, 41, 0, 0, 0, 0, 0)), (41, (.getfield 186, 44, 9, 18, 0, 0, 0)), (44, (.goto 19, 47, 63, 0, 0, 0, 0)), (47, (.iload_n 2, 48, 0, 0, 0, 0, 0))],
  [(48, (.iconst 1, 49, 0, 0, 0, 1, 0)), (49, (.if_icmp .ne 10, 52, 59, 0, 0, 0, 0)), (52, (.aload_n 0, 53, 0, 0, 0, 0, 0)), (53, (.getfield 189, 56, 9, 19, 0, 0, 0)), (56, (.goto 7, 59, 63, 0, 0, 0, 0)), (59, (.aload_n 0, 60, 0, 0, 0, 0, 0)), (60, (.invokevirtual 216, 63, 156, 1, 9, 0, 0)), (63, (.ireturn, 64, 0, 0, 0, 0, 0))]]
def md_X9_move : mMd := (yX9_move, 9, cX9_move, 3, (some .int), mt_X9_move)
def mt_X9_playOne : mTab := [[(0, (.aload_n 0, 1, 0, 0, 0, 0, 0)), (1, (.invokevirtual 257, 4, 171, 1, 9, 0, 0)), (4, (.aload_n 0, 5, 0, 0, 0, 0, 0)), (5, (.iload_n 1, 6, 0, 0, 0, 0, 0)), (6, (.invokevirtual 260, 9, 155, 2, 9, 0, 0)), (9, (.ifCond .ne 6, 12, 15, 0, 0, 0, 0)), (12, (.bipush (-5), 14, 0, 0, 0, (-5), 0)), (14, (.ireturn, 15, 0, 0, 0, 0, 0)), (15, (.aload_n 0, 16, 0, 0, 0, 0, 0))],
  [(16, (.invokevirtual 216, 19, 156, 1, 9, 0, 0)), (19, (.istore_n 3, 20, 0, 0, 0, 0, 0)), (20, (.iload_n 3, 21, 0, 0, 0, 0, 0)), (21, (.ifCond .le 16, 24, 37, 0, 0, 0, 0)), (24, (.iload_n 2, 25, 0, 0, 0, 0, 0)), (25, (.iconst 0, 26, 0, 0, 0, 0, 0)), (26, (.iload_n 3, 27, 0, 0, 0, 0, 0)), (27, (.iconst 1, 28, 0, 0, 0, 1, 0)), (28, (.isub, 29, 0, 0, 0, 0, 0)), (29, (.invokestatic 75, 32, 118, 3, 0, 0, 0))],
  [(32, (.ifCond .ne 5, 35, 37, 0, 0, 0, 0)), (35, (.iconst (-1), 36, 0, 0, 0, (-1), 0)), (36, (.ireturn, 37, 0, 0, 0, 0, 0)), (37, (.aload_n 0, 38, 0, 0, 0, 0, 0)), (38, (.getfield 247, 41, 9, 26, 0, 0, 0)), (41, (.bipush 20, 43, 0, 0, 0, 20, 0)), (43, (.if_icmp .ne 6, 46, 49, 0, 0, 0, 0)), (46, (.bipush (-3), 48, 0, 0, 0, (-3), 0))],
  [(48, (.ireturn, 49, 0, 0, 0, 0, 0)), (49, (.iload_n 3, 50, 0, 0, 0, 0, 0)), (50, (.ifCond .le 8, 53, 58, 0, 0, 0, 0)), (53, (.aload_n 0, 54, 0, 0, 0, 0, 0)), (54, (.iload_n 2, 55, 0, 0, 0, 0, 0)), (55, (.invokevirtual 219, 58, 157, 2, 9, 0, 0)), (58, (.aload_n 0, 59, 0, 0, 0, 0, 0)), (59, (.iload_n 3, 60, 0, 0, 0, 0, 0)), (60, (.ifCond .ne 7, 63, 67, 0, 0, 0, 0)), (63, (.iconst 1, 64, 0, 0, 0, 1, 0))],
  [(64, (.goto 4, 67, 68, 0, 0, 0, 0)), (67, (.iconst 0, 68, 0, 0, 0, 0, 0)), (68, (.putfield 244, 71, 9, 25, 3, 0, 0)), (71, (.aload_n 0, 72, 0, 0, 0, 0, 0)), (72, (.dup, 73, 0, 0, 0, 0, 0)), (73, (.getfield 247, 76, 9, 26, 0, 0, 0)), (76, (.iconst 1, 77, 0, 0, 0, 1, 0)), (77, (.iadd, 78, 0, 0, 0, 0, 0)), (78, (.putfield 247, 81, 9, 26, 0, 0, 0))],
  [(81, (.aload_n 0, 82, 0, 0, 0, 0, 0)), (82, (.getfield 50, 85, 9, 27, 2, 0, 0)), (85, (.aload_n 0, 86, 0, 0, 0, 0, 0)), (86, (.getfield 247, 89, 9, 26, 0, 0, 0)), (89, (.aload_n 0, 90, 0, 0, 0, 0, 0)), (90, (.getfield 173, 93, 9, 15, 1, 0, 0)), (93, (.lastore, 94, 0, 0, 0, 0, 0)), (94, (.aload_n 0, 95, 0, 0, 0, 0, 0)), (95, (.getfield 53, 98, 9, 28, 2, 0, 0))],
  [(98, (.aload_n 0, 99, 0, 0, 0, 0, 0)), (99, (.getfield 247, 102, 9, 26, 0, 0, 0)), (102, (.aload_n 0, 103, 0, 0, 0, 0, 0)), (103, (.getfield 180, 106, 9, 16, 1, 0, 0)), (106, (.lastore, 107, 0, 0, 0, 0, 0)), (107, (.aload_n 0, 108, 0, 0, 0, 0, 0)), (108, (.getfield 244, 111, 9, 25, 3, 0, 0)), (111, (.ifCond .eq 9, 114, 120, 0, 0, 0, 0))],
  [(114, (.sipush 1000, 117, 0, 0, 0, 1000, 0)), (117, (.goto 7, 120, 124, 0, 0, 0, 0)), (120, (.aload_n 0, 121, 0, 0, 0, 0, 0)), (121, (.invokevirtual 195, 124, 154, 1, 9, 0, 0)), (124, (.ireturn, 125, 0, 0, 0, 0, 0))]]
def md_X9_playOne : mMd := (yX9_playOne, 9, cX9_playOne, 4, (some .int), mt_X9_playOne)
def mt_X9_play : mTab := [[(0, (.aload_n 0, 1, 0, 0, 0, 0, 0)), (1, (.invokevirtual 254, 4, 170, 1, 9, 0, 0)), (4, (.ifCond .eq 12, 7, 16, 0, 0, 0, 0)), (7, (.aload_n 0, 8, 0, 0, 0, 0, 0)), (8, (.iload_n 1, 9, 0, 0, 0, 0, 0)), (9, (.iload_n 2, 10, 0, 0, 0, 0, 0)), (10, (.invokevirtual 263, 13, 178, 3, 9, 0, 0)), (13, (.goto 5, 16, 18, 0, 0, 0, 0))],
  [(16, (.bipush (-7), 18, 0, 0, 0, (-7), 0)), (18, (.ireturn, 19, 0, 0, 0, 0, 0))]]
def md_X9_play : mMd := (yX9_play, 9, cX9_play, 3, (some .int), mt_X9_play)
def mt_X9_takeBack : mTab := [[(0, (.aload_n 0, 1, 0, 0, 0, 0, 0)), (1, (.getfield 83, 4, 9, 24, 3, 0, 0)), (4, (.ifCond .eq 10, 7, 14, 0, 0, 0, 0)), (7, (.aload_n 0, 8, 0, 0, 0, 0, 0)), (8, (.getfield 247, 11, 9, 26, 0, 0, 0)), (11, (.ifCond .ne 6, 14, 17, 0, 0, 0, 0)), (14, (.bipush (-5), 16, 0, 0, 0, (-5), 0))],
  [(16, (.ireturn, 17, 0, 0, 0, 0, 0)), (17, (.aload_n 0, 18, 0, 0, 0, 0, 0)), (18, (.dup, 19, 0, 0, 0, 0, 0)), (19, (.getfield 247, 22, 9, 26, 0, 0, 0)), (22, (.iconst 1, 23, 0, 0, 0, 1, 0)), (23, (.isub, 24, 0, 0, 0, 0, 0)), (24, (.putfield 247, 27, 9, 26, 0, 0, 0)), (27, (.aload_n 0, 28, 0, 0, 0, 0, 0)), (28, (.iconst 0, 29, 0, 0, 0, 0, 0)), (29, (.putfield 244, 32, 9, 25, 3, 0, 0))],
  [(32, (.aload_n 0, 33, 0, 0, 0, 0, 0)), (33, (.getfield 247, 36, 9, 26, 0, 0, 0)), (36, (.ireturn, 37, 0, 0, 0, 0, 0))]]
def md_X9_takeBack : mMd := (yX9_takeBack, 9, cX9_takeBack, 1, (some .int), mt_X9_takeBack)
def mt_X9_rankNow : mTab := [[(0, (.aload_n 0, 1, 0, 0, 0, 0, 0)), (1, (.invokevirtual 257, 4, 171, 1, 9, 0, 0)), (4, (.aload_n 0, 5, 0, 0, 0, 0, 0)), (5, (.iconst 0, 6, 0, 0, 0, 0, 0)), (6, (.putfield 205, 9, 9, 23, 0, 0, 0)), (9, (.aload_n 0, 10, 0, 0, 0, 0, 0)), (10, (.invokevirtual 222, 13, 159, 1, 9, 0, 0)), (13, (.aload_n 0, 14, 0, 0, 0, 0, 0)), (14, (.invokevirtual 228, 17, 161, 1, 9, 0, 0))],
  [(17, (.istore_n 1, 18, 0, 0, 0, 0, 0)), (18, (.iload_n 1, 19, 0, 0, 0, 0, 0)), (19, (.ifCond .eq 7, 22, 26, 0, 0, 0, 0)), (22, (.aload_n 0, 23, 0, 0, 0, 0, 0)), (23, (.invokevirtual 235, 26, 163, 1, 9, 0, 0)), (26, (.iload_n 1, 27, 0, 0, 0, 0, 0)), (27, (.ireturn, 28, 0, 0, 0, 0, 0))]]
def md_X9_rankNow : mMd := (yX9_rankNow, 9, cX9_rankNow, 2, (some .boolean), mt_X9_rankNow)
def mt_X9_positionRank : mTab := [[(0, (.aload_n 0, 1, 0, 0, 0, 0, 0)), (1, (.invokevirtual 254, 4, 170, 1, 9, 0, 0)), (4, (.ifCond .ne 6, 7, 10, 0, 0, 0, 0)), (7, (.bipush (-7), 9, 0, 0, 0, (-7), 0)), (9, (.ireturn, 10, 0, 0, 0, 0, 0)), (10, (.aload_n 0, 11, 0, 0, 0, 0, 0)), (11, (.invokevirtual 266, 14, 181, 1, 9, 0, 0)), (14, (.ifCond .ne 6, 17, 20, 0, 0, 0, 0))],
  [(17, (.bipush (-6), 19, 0, 0, 0, (-6), 0)), (19, (.ireturn, 20, 0, 0, 0, 0, 0)), (20, (.aload_n 0, 21, 0, 0, 0, 0, 0)), (21, (.getfield 47, 24, 9, 22, 2, 0, 0)), (24, (.iconst 0, 25, 0, 0, 0, 0, 0)), (25, (.iaload, 26, 0, 0, 0, 0, 0)), (26, (.ifCond .ne 8, 29, 34, 0, 0, 0, 0)), (29, (.bipush (-5), 31, 0, 0, 0, (-5), 0)), (31, (.goto 9, 34, 40, 0, 0, 0, 0))],
  [(34, (.aload_n 0, 35, 0, 0, 0, 0, 0)), (35, (.getfield 47, 38, 9, 22, 2, 0, 0)), (38, (.iconst 0, 39, 0, 0, 0, 0, 0)), (39, (.iaload, 40, 0, 0, 0, 0, 0)), (40, (.ireturn, 41, 0, 0, 0, 0, 0))]]
def md_X9_positionRank : mMd := (yX9_positionRank, 9, cX9_positionRank, 1, (some .int), mt_X9_positionRank)
def mt_X9_bestMove : mTab := [[(0, (.aload_n 0, 1, 0, 0, 0, 0, 0)), (1, (.invokevirtual 254, 4, 170, 1, 9, 0, 0)), (4, (.ifCond .ne 6, 7, 10, 0, 0, 0, 0)), (7, (.bipush (-7), 9, 0, 0, 0, (-7), 0)), (9, (.ireturn, 10, 0, 0, 0, 0, 0)), (10, (.aload_n 0, 11, 0, 0, 0, 0, 0)), (11, (.invokevirtual 266, 14, 181, 1, 9, 0, 0)), (14, (.ifCond .ne 6, 17, 20, 0, 0, 0, 0))],
  [(17, (.bipush (-6), 19, 0, 0, 0, (-6), 0)), (19, (.ireturn, 20, 0, 0, 0, 0, 0)), (20, (.aload_n 0, 21, 0, 0, 0, 0, 0)), (21, (.getfield 47, 24, 9, 22, 2, 0, 0)), (24, (.iconst 0, 25, 0, 0, 0, 0, 0)), (25, (.iaload, 26, 0, 0, 0, 0, 0)), (26, (.ifCond .ne 6, 29, 32, 0, 0, 0, 0)), (29, (.bipush (-5), 31, 0, 0, 0, (-5), 0)), (31, (.ireturn, 32, 0, 0, 0, 0, 0))],
  [(32, (.iconst 0, 33, 0, 0, 0, 0, 0)), (33, (.istore_n 1, 34, 0, 0, 0, 0, 0)), (34, (.aload_n 0, 35, 0, 0, 0, 0, 0)), (35, (.iconst 0, 36, 0, 0, 0, 0, 0)), (36, (.iconst 0, 37, 0, 0, 0, 0, 0)), (37, (.invokevirtual 225, 40, 162, 3, 9, 0, 0)), (40, (.istore_n 2, 41, 0, 0, 0, 0, 0)), (41, (.iload_n 2, 42, 0, 0, 0, 0, 0)), (42, (.ifCond .eq 13, 45, 55, 0, 0, 0, 0)), (45, (.iload_n 2, 46, 0, 0, 0, 0, 0)), (46, (.aload_n 0, 47, 0, 0, 0, 0, 0)), (47, (.getfield 47, 50, 9, 22, 2, 0, 0))],
  [(50, (.iconst 0, 51, 0, 0, 0, 0, 0)), (51, (.iaload, 52, 0, 0, 0, 0, 0)), (52, (.if_icmp .le 16, 55, 68, 0, 0, 0, 0)), (55, (.iinc 1 1, 58, 0, 0, 0, 1, 0)), (58, (.aload_n 0, 59, 0, 0, 0, 0, 0)), (59, (.iconst 0, 60, 0, 0, 0, 0, 0)), (60, (.iload_n 1, 61, 0, 0, 0, 0, 0)), (61, (.invokevirtual 225, 64, 162, 3, 9, 0, 0))],
  [(64, (.istore_n 2, 65, 0, 0, 0, 0, 0)), (65, (.goto (-24), 68, 41, 0, 0, 0, 0)), (68, (.iload_n 1, 69, 0, 0, 0, 0, 0)), (69, (.ireturn, 70, 0, 0, 0, 0, 0))]]
def md_X9_bestMove : mMd := (yX9_bestMove, 9, cX9_bestMove, 3, (some .int), mt_X9_bestMove)
def mt_X9_hardestReply : mTab := [[(0, (.aload_n 0, 1, 0, 0, 0, 0, 0)), (1, (.invokevirtual 254, 4, 170, 1, 9, 0, 0)), (4, (.ifCond .ne 6, 7, 10, 0, 0, 0, 0)), (7, (.bipush (-7), 9, 0, 0, 0, (-7), 0)), (9, (.ireturn, 10, 0, 0, 0, 0, 0)), (10, (.aload_n 0, 11, 0, 0, 0, 0, 0)), (11, (.invokevirtual 266, 14, 181, 1, 9, 0, 0)), (14, (.ifCond .ne 6, 17, 20, 0, 0, 0, 0))],
  [(17, (.bipush (-6), 19, 0, 0, 0, (-6), 0)), (19, (.ireturn, 20, 0, 0, 0, 0, 0)), (20, (.aload_n 0, 21, 0, 0, 0, 0, 0)), (21, (.invokevirtual 257, 24, 171, 1, 9, 0, 0)), (24, (.aload_n 0, 25, 0, 0, 0, 0, 0)), (25, (.iload_n 1, 26, 0, 0, 0, 0, 0)), (26, (.invokevirtual 260, 29, 155, 2, 9, 0, 0)), (29, (.ifCond .ne 6, 32, 35, 0, 0, 0, 0))],
  [(32, (.bipush (-5), 34, 0, 0, 0, (-5), 0)), (34, (.ireturn, 35, 0, 0, 0, 0, 0)), (35, (.aload_n 0, 36, 0, 0, 0, 0, 0)), (36, (.invokevirtual 216, 39, 156, 1, 9, 0, 0)), (39, (.istore_n 2, 40, 0, 0, 0, 0, 0)), (40, (.bipush (-5), 42, 0, 0, 0, (-5), 0)), (42, (.istore_n 3, 43, 0, 0, 0, 0, 0)), (43, (.iconst 0, 44, 0, 0, 0, 0, 0)), (44, (.istore 4, 46, 0, 0, 0, 0, 0)), (46, (.iconst 0, 47, 0, 0, 0, 0, 0)), (47, (.istore 5, 49, 0, 0, 0, 0, 0))],
  [(49, (.iload 5, 51, 0, 0, 0, 0, 0)), (51, (.iload_n 2, 52, 0, 0, 0, 0, 0)), (52, (.if_icmp .ge 61, 55, 113, 0, 0, 0, 0)), (55, (.aload_n 0, 56, 0, 0, 0, 0, 0)), (56, (.iconst 0, 57, 0, 0, 0, 0, 0)), (57, (.invokevirtual 212, 60, 160, 2, 9, 0, 0)), (60, (.aload_n 0, 61, 0, 0, 0, 0, 0)), (61, (.iload 5, 63, 0, 0, 0, 0, 0)), (63, (.invokevirtual 219, 66, 157, 2, 9, 0, 0))],
  [(66, (.aload_n 0, 67, 0, 0, 0, 0, 0)), (67, (.getfield 47, 70, 9, 22, 2, 0, 0)), (70, (.aload_n 0, 71, 0, 0, 0, 0, 0)), (71, (.aload_n 0, 72, 0, 0, 0, 0, 0)), (72, (.getfield 173, 75, 9, 15, 1, 0, 0)), (75, (.aload_n 0, 76, 0, 0, 0, 0, 0)), (76, (.getfield 180, 79, 9, 16, 1, 0, 0)), (79, (.invokevirtual 208, 82, 158, 3, 9, 0, 0))],
  [(82, (.iaload, 83, 0, 0, 0, 0, 0)), (83, (.istore 6, 85, 0, 0, 0, 0, 0)), (85, (.iload 6, 87, 0, 0, 0, 0, 0)), (87, (.ifCond .ne 6, 90, 93, 0, 0, 0, 0)), (90, (.iload 5, 92, 0, 0, 0, 0, 0)), (92, (.ireturn, 93, 0, 0, 0, 0, 0)), (93, (.iload 6, 95, 0, 0, 0, 0, 0)), (95, (.iload 4, 97, 0, 0, 0, 0, 0))],
  [(97, (.if_icmp .le 10, 100, 107, 0, 0, 0, 0)), (100, (.iload 6, 102, 0, 0, 0, 0, 0)), (102, (.istore 4, 104, 0, 0, 0, 0, 0)), (104, (.iload 5, 106, 0, 0, 0, 0, 0)), (106, (.istore_n 3, 107, 0, 0, 0, 0, 0)), (107, (.iinc 5 1, 110, 0, 0, 0, 1, 0)), (110, (.goto (-61), 113, 49, 0, 0, 0, 0))],
  [(113, (.iload_n 3, 114, 0, 0, 0, 0, 0)), (114, (.ireturn, 115, 0, 0, 0, 0, 0))]]
def md_X9_hardestReply : mMd := (yX9_hardestReply, 9, cX9_hardestReply, 7, (some .int), mt_X9_hardestReply)
def mt_X9_isSlot : mTab := [[(0, (.iload_n 0, 1, 0, 0, 0, 0, 0)), (1, (.iconst 0, 2, 0, 0, 0, 0, 0)), (2, (.iconst 3, 3, 0, 0, 0, 3, 0)), (3, (.invokestatic 75, 6, 118, 3, 0, 0, 0)), (6, (.ireturn, 7, 0, 0, 0, 0, 0))]]
def md_X9_isSlot : mMd := (yX9_isSlot, 9, cX9_isSlot, 1, (some .boolean), mt_X9_isSlot)
def mt_X9_allocate : mTab := [[(0, (.iload_n 1, 1, 0, 0, 0, 0, 0)), (1, (.invokestatic 269, 4, 185, 1, 0, 0, 0)), (4, (.ifCond .eq 18, 7, 22, 0, 0, 0, 0)), (7, (.iload_n 2, 8, 0, 0, 0, 0, 0)), (8, (.iconst 0, 9, 0, 0, 0, 0, 0)), (9, (.iconst 3, 10, 0, 0, 0, 3, 0)), (10, (.invokestatic 75, 13, 118, 3, 0, 0, 0)), (13, (.ifCond .eq 9, 16, 22, 0, 0, 0, 0))],
  [(16, (.iload_n 3, 17, 0, 0, 0, 0, 0)), (17, (.bipush 40, 19, 0, 0, 0, 40, 0)), (19, (.if_icmp .le 5, 22, 24, 0, 0, 0, 0)), (22, (.iconst (-1), 23, 0, 0, 0, (-1), 0)), (23, (.ireturn, 24, 0, 0, 0, 0, 0)), (24, (.iload_n 3, 25, 0, 0, 0, 0, 0)), (25, (.ifCond .ge 6, 28, 31, 0, 0, 0, 0)), (28, (.bipush (-14), 30, 0, 0, 0, (-14), 0)), (30, (.ireturn, 31, 0, 0, 0, 0, 0)), (31, (.aload_n 0, 32, 0, 0, 0, 0, 0))],
  [(32, (.getfield 56, 35, 9, 29, 2, 0, 0)), (35, (.iload_n 1, 36, 0, 0, 0, 0, 0)), (36, (.iload_n 2, 37, 0, 0, 0, 0, 0)), (37, (.iastore, 38, 0, 0, 0, 0, 0)), (38, (.aload_n 0, 39, 0, 0, 0, 0, 0)), (39, (.getfield 59, 42, 9, 30, 2, 0, 0)), (42, (.iload_n 1, 43, 0, 0, 0, 0, 0)), (43, (.iload_n 3, 44, 0, 0, 0, 0, 0)), (44, (.iastore, 45, 0, 0, 0, 0, 0)), (45, (.iconst 0, 46, 0, 0, 0, 0, 0)), (46, (.istore 4, 48, 0, 0, 0, 0, 0))],
  [(48, (.iload 4, 50, 0, 0, 0, 0, 0)), (50, (.bipush 40, 52, 0, 0, 0, 40, 0)), (52, (.if_icmp .ge 35, 55, 87, 0, 0, 0, 0)), (55, (.aload_n 0, 56, 0, 0, 0, 0, 0)), (56, (.getfield 62, 59, 9, 31, 2, 0, 0)), (59, (.bipush 40, 61, 0, 0, 0, 40, 0)), (61, (.iload_n 1, 62, 0, 0, 0, 0, 0)), (62, (.imul, 63, 0, 0, 0, 0, 0)), (63, (.iload 4, 65, 0, 0, 0, 0, 0))],
  [(65, (.iadd, 66, 0, 0, 0, 0, 0)), (66, (.lconst 0, 67, 0, 0, 0, 0, 0)), (67, (.lastore, 68, 0, 0, 0, 0, 0)), (68, (.aload_n 0, 69, 0, 0, 0, 0, 0)), (69, (.getfield 65, 72, 9, 32, 2, 0, 0)), (72, (.bipush 40, 74, 0, 0, 0, 40, 0)), (74, (.iload_n 1, 75, 0, 0, 0, 0, 0)), (75, (.imul, 76, 0, 0, 0, 0, 0)), (76, (.iload 4, 78, 0, 0, 0, 0, 0)), (78, (.iadd, 79, 0, 0, 0, 0, 0)), (79, (.dconst 0, 80, 0, 0, 0, 0, 0))],
  [(80, (.dastore, 81, 0, 0, 0, 0, 0)), (81, (.iinc 4 1, 84, 0, 0, 0, 1, 0)), (84, (.goto (-36), 87, 48, 0, 0, 0, 0)), (87, (.iload_n 3, 88, 0, 0, 0, 0, 0)), (88, (.ireturn, 89, 0, 0, 0, 0, 0))]]
def md_X9_allocate : mMd := (yX9_allocate, 9, cX9_allocate, 5, (some .int), mt_X9_allocate)
def mt_X9_release : mTab := [[(0, (.iload_n 1, 1, 0, 0, 0, 0, 0)), (1, (.invokestatic 269, 4, 185, 1, 0, 0, 0)), (4, (.ifCond .ne 5, 7, 9, 0, 0, 0, 0)), (7, (.iconst (-1), 8, 0, 0, 0, (-1), 0)), (8, (.ireturn, 9, 0, 0, 0, 0, 0)), (9, (.aload_n 0, 10, 0, 0, 0, 0, 0)), (10, (.getfield 56, 13, 9, 29, 2, 0, 0)), (13, (.iload_n 1, 14, 0, 0, 0, 0, 0)), (14, (.iaload, 15, 0, 0, 0, 0, 0)), (15, (.ifCond .ge 7, 18, 22, 0, 0, 0, 0))],
  [(18, (.iconst 0, 19, 0, 0, 0, 0, 0)), (19, (.goto 4, 22, 23, 0, 0, 0, 0)), (22, (.iconst 1, 23, 0, 0, 0, 1, 0)), (23, (.istore_n 2, 24, 0, 0, 0, 0, 0)), (24, (.aload_n 0, 25, 0, 0, 0, 0, 0)), (25, (.getfield 56, 28, 9, 29, 2, 0, 0)), (28, (.iload_n 1, 29, 0, 0, 0, 0, 0)), (29, (.iconst (-1), 30, 0, 0, 0, (-1), 0)), (30, (.iastore, 31, 0, 0, 0, 0, 0)), (31, (.iload_n 2, 32, 0, 0, 0, 0, 0))],
  [(32, (.ireturn, 33, 0, 0, 0, 0, 0))]]
def md_X9_release : mMd := (yX9_release, 9, cX9_release, 3, (some .int), mt_X9_release)
def mt_X9_putElement : mTab := [[(0, (.iload_n 1, 1, 0, 0, 0, 0, 0)), (1, (.invokestatic 269, 4, 185, 1, 0, 0, 0)), (4, (.ifCond .ne 5, 7, 9, 0, 0, 0, 0)), (7, (.iconst (-1), 8, 0, 0, 0, (-1), 0)), (8, (.ireturn, 9, 0, 0, 0, 0, 0)), (9, (.aload_n 0, 10, 0, 0, 0, 0, 0)), (10, (.getfield 56, 13, 9, 29, 2, 0, 0)), (13, (.iload_n 1, 14, 0, 0, 0, 0, 0)), (14, (.iaload, 15, 0, 0, 0, 0, 0)), (15, (.ifCond .ge 6, 18, 21, 0, 0, 0, 0))],
  [(18, (.bipush (-11), 20, 0, 0, 0, (-11), 0)), (20, (.ireturn, 21, 0, 0, 0, 0, 0)), (21, (.iload_n 2, 22, 0, 0, 0, 0, 0)), (22, (.iconst 0, 23, 0, 0, 0, 0, 0)), (23, (.aload_n 0, 24, 0, 0, 0, 0, 0)), (24, (.getfield 59, 27, 9, 30, 2, 0, 0)), (27, (.iload_n 1, 28, 0, 0, 0, 0, 0)), (28, (.iaload, 29, 0, 0, 0, 0, 0)), (29, (.iconst 1, 30, 0, 0, 0, 1, 0)), (30, (.isub, 31, 0, 0, 0, 0, 0)), (31, (.invokestatic 75, 34, 118, 3, 0, 0, 0))],
  [(34, (.ifCond .ne 6, 37, 40, 0, 0, 0, 0)), (37, (.bipush (-13), 39, 0, 0, 0, (-13), 0)), (39, (.ireturn, 40, 0, 0, 0, 0, 0)), (40, (.aload_n 0, 41, 0, 0, 0, 0, 0)), (41, (.getfield 62, 44, 9, 31, 2, 0, 0)), (44, (.bipush 40, 46, 0, 0, 0, 40, 0)), (46, (.iload_n 1, 47, 0, 0, 0, 0, 0)), (47, (.imul, 48, 0, 0, 0, 0, 0))],
  [(48, (.iload_n 2, 49, 0, 0, 0, 0, 0)), (49, (.iadd, 50, 0, 0, 0, 0, 0)), (50, (.aload_n 0, 51, 0, 0, 0, 0, 0)), (51, (.getfield 56, 54, 9, 29, 2, 0, 0)), (54, (.iload_n 1, 55, 0, 0, 0, 0, 0)), (55, (.iaload, 56, 0, 0, 0, 0, 0)), (56, (.ifCond .ne 10, 59, 66, 0, 0, 0, 0)), (59, (.lload_n 3, 60, 0, 0, 0, 0, 0)), (60, (.l2i, 61, 0, 0, 0, 0, 0)), (61, (.i2b, 62, 0, 0, 0, 0, 0)), (62, (.i2l, 63, 0, 0, 0, 0, 0)), (63, (.goto 4, 66, 67, 0, 0, 0, 0))],
  [(66, (.lload_n 3, 67, 0, 0, 0, 0, 0)), (67, (.lastore, 68, 0, 0, 0, 0, 0)), (68, (.aload_n 0, 69, 0, 0, 0, 0, 0)), (69, (.getfield 65, 72, 9, 32, 2, 0, 0)), (72, (.bipush 40, 74, 0, 0, 0, 40, 0)), (74, (.iload_n 1, 75, 0, 0, 0, 0, 0)), (75, (.imul, 76, 0, 0, 0, 0, 0)), (76, (.iload_n 2, 77, 0, 0, 0, 0, 0)), (77, (.iadd, 78, 0, 0, 0, 0, 0)), (78, (.aload_n 0, 79, 0, 0, 0, 0, 0)), (79, (.getfield 56, 82, 9, 29, 2, 0, 0))],
  [(82, (.iload_n 1, 83, 0, 0, 0, 0, 0)), (83, (.iaload, 84, 0, 0, 0, 0, 0)), (84, (.iconst 2, 85, 0, 0, 0, 2, 0)), (85, (.if_icmp .ne 9, 88, 94, 0, 0, 0, 0)), (88, (.lload_n 3, 89, 0, 0, 0, 0, 0)), (89, (.l2f, 90, 0, 0, 0, 0, 0)), (90, (.f2d, 91, 0, 0, 0, 0, 0)), (91, (.goto 5, 94, 96, 0, 0, 0, 0)), (94, (.lload_n 3, 95, 0, 0, 0, 0, 0)), (95, (.l2d, 96, 0, 0, 0, 0, 0))],
  [(96, (.dastore, 97, 0, 0, 0, 0, 0)), (97, (.iconst 1, 98, 0, 0, 0, 1, 0)), (98, (.ireturn, 99, 0, 0, 0, 0, 0))]]
def md_X9_putElement : mMd := (yX9_putElement, 9, cX9_putElement, 5, (some .int), mt_X9_putElement)
def mt_X9_element : mTab := [[(0, (.iload_n 1, 1, 0, 0, 0, 0, 0)), (1, (.invokestatic 269, 4, 185, 1, 0, 0, 0)), (4, (.ifCond .eq 28, 7, 32, 0, 0, 0, 0)), (7, (.aload_n 0, 8, 0, 0, 0, 0, 0)), (8, (.getfield 56, 11, 9, 29, 2, 0, 0)), (11, (.iload_n 1, 12, 0, 0, 0, 0, 0)), (12, (.iaload, 13, 0, 0, 0, 0, 0)), (13, (.ifCond .lt 19, 16, 32, 0, 0, 0, 0))],
  [(16, (.iload_n 2, 17, 0, 0, 0, 0, 0)), (17, (.iconst 0, 18, 0, 0, 0, 0, 0)), (18, (.aload_n 0, 19, 0, 0, 0, 0, 0)), (19, (.getfield 59, 22, 9, 30, 2, 0, 0)), (22, (.iload_n 1, 23, 0, 0, 0, 0, 0)), (23, (.iaload, 24, 0, 0, 0, 0, 0)), (24, (.iconst 1, 25, 0, 0, 0, 1, 0)), (25, (.isub, 26, 0, 0, 0, 0, 0)), (26, (.invokestatic 75, 29, 118, 3, 0, 0, 0)), (29, (.ifCond .ne 7, 32, 36, 0, 0, 0, 0))],
  [(32, (.ldc2_w 142, 35, 0, 0, 0, 0, (-9223372036854775808))), (35, (.lreturn, 36, 0, 0, 0, 0, 0)), (36, (.aload_n 0, 37, 0, 0, 0, 0, 0)), (37, (.getfield 56, 40, 9, 29, 2, 0, 0)), (40, (.iload_n 1, 41, 0, 0, 0, 0, 0)), (41, (.iaload, 42, 0, 0, 0, 0, 0)), (42, (.iconst 2, 43, 0, 0, 0, 2, 0)), (43, (.if_icmp .ge 17, 46, 60, 0, 0, 0, 0)), (46, (.aload_n 0, 47, 0, 0, 0, 0, 0)), (47, (.getfield 62, 50, 9, 31, 2, 0, 0))],
  [(50, (.bipush 40, 52, 0, 0, 0, 40, 0)), (52, (.iload_n 1, 53, 0, 0, 0, 0, 0)), (53, (.imul, 54, 0, 0, 0, 0, 0)), (54, (.iload_n 2, 55, 0, 0, 0, 0, 0)), (55, (.iadd, 56, 0, 0, 0, 0, 0)), (56, (.laload, 57, 0, 0, 0, 0, 0)), (57, (.goto 15, 60, 72, 0, 0, 0, 0)), (60, (.aload_n 0, 61, 0, 0, 0, 0, 0)), (61, (.getfield 65, 64, 9, 32, 2, 0, 0))],
  [(64, (.bipush 40, 66, 0, 0, 0, 40, 0)), (66, (.iload_n 1, 67, 0, 0, 0, 0, 0)), (67, (.imul, 68, 0, 0, 0, 0, 0)), (68, (.iload_n 2, 69, 0, 0, 0, 0, 0)), (69, (.iadd, 70, 0, 0, 0, 0, 0)), (70, (.daload, 71, 0, 0, 0, 0, 0)), (71, (.d2l, 72, 0, 0, 0, 0, 0)), (72, (.lreturn, 73, 0, 0, 0, 0, 0))]]
def md_X9_element : mMd := (yX9_element, 9, cX9_element, 3, (some .long), mt_X9_element)
def mt_X9_compute : mTab := [[(0, (.iload_n 1, 1, 0, 0, 0, 0, 0)), (1, (.invokestatic 269, 4, 185, 1, 0, 0, 0)), (4, (.ifCond .eq 12, 7, 16, 0, 0, 0, 0)), (7, (.iload_n 3, 8, 0, 0, 0, 0, 0)), (8, (.iconst 0, 9, 0, 0, 0, 0, 0)), (9, (.iconst 1, 10, 0, 0, 0, 1, 0)), (10, (.invokestatic 75, 13, 118, 3, 0, 0, 0)), (13, (.ifCond .ne 5, 16, 18, 0, 0, 0, 0))],
  [(16, (.iconst (-1), 17, 0, 0, 0, (-1), 0)), (17, (.ireturn, 18, 0, 0, 0, 0, 0)), (18, (.aload_n 0, 19, 0, 0, 0, 0, 0)), (19, (.getfield 56, 22, 9, 29, 2, 0, 0)), (22, (.iload_n 1, 23, 0, 0, 0, 0, 0)), (23, (.iaload, 24, 0, 0, 0, 0, 0)), (24, (.ifCond .ge 6, 27, 30, 0, 0, 0, 0)), (27, (.bipush (-11), 29, 0, 0, 0, (-11), 0)), (29, (.ireturn, 30, 0, 0, 0, 0, 0)), (30, (.aload_n 0, 31, 0, 0, 0, 0, 0)), (31, (.getfield 56, 34, 9, 29, 2, 0, 0))],
  [(34, (.iload_n 1, 35, 0, 0, 0, 0, 0)), (35, (.iaload, 36, 0, 0, 0, 0, 0)), (36, (.iconst 2, 37, 0, 0, 0, 2, 0)), (37, (.if_icmp .ge 6, 40, 43, 0, 0, 0, 0)), (40, (.bipush (-12), 42, 0, 0, 0, (-12), 0)), (42, (.ireturn, 43, 0, 0, 0, 0, 0)), (43, (.iload_n 2, 44, 0, 0, 0, 0, 0)), (44, (.iconst 0, 45, 0, 0, 0, 0, 0)), (45, (.aload_n 0, 46, 0, 0, 0, 0, 0)), (46, (.getfield 59, 49, 9, 30, 2, 0, 0))],
  [(49, (.iload_n 1, 50, 0, 0, 0, 0, 0)), (50, (.iaload, 51, 0, 0, 0, 0, 0)), (51, (.iconst 1, 52, 0, 0, 0, 1, 0)), (52, (.isub, 53, 0, 0, 0, 0, 0)), (53, (.invokestatic 75, 56, 118, 3, 0, 0, 0)), (56, (.ifCond .ne 6, 59, 62, 0, 0, 0, 0)), (59, (.bipush (-13), 61, 0, 0, 0, (-13), 0)), (61, (.ireturn, 62, 0, 0, 0, 0, 0)), (62, (.aload_n 0, 63, 0, 0, 0, 0, 0)), (63, (.getfield 65, 66, 9, 32, 2, 0, 0))],
  [(66, (.bipush 40, 68, 0, 0, 0, 40, 0)), (68, (.iload_n 1, 69, 0, 0, 0, 0, 0)), (69, (.imul, 70, 0, 0, 0, 0, 0)), (70, (.iload_n 2, 71, 0, 0, 0, 0, 0)), (71, (.iadd, 72, 0, 0, 0, 0, 0)), (72, (.daload, 73, 0, 0, 0, 0, 0)), (73, (.dstore 5, 75, 0, 0, 0, 0, 0)), (75, (.aload_n 0, 76, 0, 0, 0, 0, 0)), (76, (.getfield 56, 79, 9, 29, 2, 0, 0)), (79, (.iload_n 1, 80, 0, 0, 0, 0, 0))],
  [(80, (.iaload, 81, 0, 0, 0, 0, 0)), (81, (.iconst 2, 82, 0, 0, 0, 2, 0)), (82, (.if_icmp .ne 46, 85, 128, 0, 0, 0, 0)), (85, (.dload 5, 87, 0, 0, 0, 0, 0)), (87, (.d2f, 88, 0, 0, 0, 0, 0)), (88, (.fstore 7, 90, 0, 0, 0, 0, 0)), (90, (.iload 4, 92, 0, 0, 0, 0, 0)), (92, (.i2f, 93, 0, 0, 0, 0, 0)), (93, (.fstore 8, 95, 0, 0, 0, 0, 0)), (95, (.aload_n 0, 96, 0, 0, 0, 0, 0))],
  [(96, (.getfield 65, 99, 9, 32, 2, 0, 0)), (99, (.bipush 40, 101, 0, 0, 0, 40, 0)), (101, (.iload_n 1, 102, 0, 0, 0, 0, 0)), (102, (.imul, 103, 0, 0, 0, 0, 0)), (103, (.iload_n 2, 104, 0, 0, 0, 0, 0)), (104, (.iadd, 105, 0, 0, 0, 0, 0)), (105, (.iload_n 3, 106, 0, 0, 0, 0, 0)), (106, (.ifCond .ne 12, 109, 118, 0, 0, 0, 0)), (109, (.fload 7, 111, 0, 0, 0, 0, 0)), (111, (.fload 8, 113, 0, 0, 0, 0, 0))],
  [(113, (.fdiv, 114, 0, 0, 0, 0, 0)), (114, (.f2d, 115, 0, 0, 0, 0, 0)), (115, (.goto 9, 118, 124, 0, 0, 0, 0)), (118, (.fload 7, 120, 0, 0, 0, 0, 0)), (120, (.fload 8, 122, 0, 0, 0, 0, 0)), (122, (.frem, 123, 0, 0, 0, 0, 0)), (123, (.f2d, 124, 0, 0, 0, 0, 0)), (124, (.dastore, 125, 0, 0, 0, 0, 0)), (125, (.goto 33, 128, 158, 0, 0, 0, 0))],
  [(128, (.aload_n 0, 129, 0, 0, 0, 0, 0)), (129, (.getfield 65, 132, 9, 32, 2, 0, 0)), (132, (.bipush 40, 134, 0, 0, 0, 40, 0)), (134, (.iload_n 1, 135, 0, 0, 0, 0, 0)), (135, (.imul, 136, 0, 0, 0, 0, 0)), (136, (.iload_n 2, 137, 0, 0, 0, 0, 0)), (137, (.iadd, 138, 0, 0, 0, 0, 0)), (138, (.iload_n 3, 139, 0, 0, 0, 0, 0)), (139, (.ifCond .ne 12, 142, 151, 0, 0, 0, 0)), (142, (.dload 5, 144, 0, 0, 0, 0, 0))],
  [(144, (.iload 4, 146, 0, 0, 0, 0, 0)), (146, (.i2d, 147, 0, 0, 0, 0, 0)), (147, (.ddiv, 148, 0, 0, 0, 0, 0)), (148, (.goto 9, 151, 157, 0, 0, 0, 0)), (151, (.dload 5, 153, 0, 0, 0, 0, 0)), (153, (.iload 4, 155, 0, 0, 0, 0, 0)), (155, (.i2d, 156, 0, 0, 0, 0, 0)), (156, (.drem, 157, 0, 0, 0, 0, 0)), (157, (.dastore, 158, 0, 0, 0, 0, 0)), (158, (.iconst 1, 159, 0, 0, 0, 1, 0)), (159, (.ireturn, 160, 0, 0, 0, 0, 0))]]
def md_X9_compute : mMd := (yX9_compute, 9, cX9_compute, 9, (some .int), mt_X9_compute)
def mt_X9_copyElements : mTab := [[(0, (.iload_n 1, 1, 0, 0, 0, 0, 0)), (1, (.invokestatic 269, 4, 185, 1, 0, 0, 0)), (4, (.ifCond .eq 10, 7, 14, 0, 0, 0, 0)), (7, (.iload_n 3, 8, 0, 0, 0, 0, 0)), (8, (.invokestatic 269, 11, 185, 1, 0, 0, 0)), (11, (.ifCond .ne 5, 14, 16, 0, 0, 0, 0)), (14, (.iconst (-1), 15, 0, 0, 0, (-1), 0)), (15, (.ireturn, 16, 0, 0, 0, 0, 0))],
  [(16, (.aload_n 0, 17, 0, 0, 0, 0, 0)), (17, (.getfield 56, 20, 9, 29, 2, 0, 0)), (20, (.iload_n 1, 21, 0, 0, 0, 0, 0)), (21, (.iaload, 22, 0, 0, 0, 0, 0)), (22, (.ifCond .lt 12, 25, 34, 0, 0, 0, 0)), (25, (.aload_n 0, 26, 0, 0, 0, 0, 0)), (26, (.getfield 56, 29, 9, 29, 2, 0, 0)), (29, (.iload_n 3, 30, 0, 0, 0, 0, 0)), (30, (.iaload, 31, 0, 0, 0, 0, 0)), (31, (.ifCond .ge 6, 34, 37, 0, 0, 0, 0))],
  [(34, (.bipush (-11), 36, 0, 0, 0, (-11), 0)), (36, (.ireturn, 37, 0, 0, 0, 0, 0)), (37, (.aload_n 0, 38, 0, 0, 0, 0, 0)), (38, (.getfield 56, 41, 9, 29, 2, 0, 0)), (41, (.iload_n 1, 42, 0, 0, 0, 0, 0)), (42, (.iaload, 43, 0, 0, 0, 0, 0)), (43, (.aload_n 0, 44, 0, 0, 0, 0, 0)), (44, (.getfield 56, 47, 9, 29, 2, 0, 0)), (47, (.iload_n 3, 48, 0, 0, 0, 0, 0))],
  [(48, (.iaload, 49, 0, 0, 0, 0, 0)), (49, (.if_icmp .eq 6, 52, 55, 0, 0, 0, 0)), (52, (.bipush (-12), 54, 0, 0, 0, (-12), 0)), (54, (.ireturn, 55, 0, 0, 0, 0, 0)), (55, (.iload_n 2, 56, 0, 0, 0, 0, 0)), (56, (.ifCond .lt 40, 59, 96, 0, 0, 0, 0)), (59, (.iload 4, 61, 0, 0, 0, 0, 0)), (61, (.ifCond .lt 35, 64, 96, 0, 0, 0, 0))],
  [(64, (.iload 5, 66, 0, 0, 0, 0, 0)), (66, (.ifCond .lt 30, 69, 96, 0, 0, 0, 0)), (69, (.iload 5, 71, 0, 0, 0, 0, 0)), (71, (.aload_n 0, 72, 0, 0, 0, 0, 0)), (72, (.getfield 59, 75, 9, 30, 2, 0, 0)), (75, (.iload_n 1, 76, 0, 0, 0, 0, 0)), (76, (.iaload, 77, 0, 0, 0, 0, 0)), (77, (.iload_n 2, 78, 0, 0, 0, 0, 0)), (78, (.isub, 79, 0, 0, 0, 0, 0)), (79, (.if_icmp .gt 17, 82, 96, 0, 0, 0, 0))],
  [(82, (.iload 5, 84, 0, 0, 0, 0, 0)), (84, (.aload_n 0, 85, 0, 0, 0, 0, 0)), (85, (.getfield 59, 88, 9, 30, 2, 0, 0)), (88, (.iload_n 3, 89, 0, 0, 0, 0, 0)), (89, (.iaload, 90, 0, 0, 0, 0, 0)), (90, (.iload 4, 92, 0, 0, 0, 0, 0)), (92, (.isub, 93, 0, 0, 0, 0, 0)), (93, (.if_icmp .le 7, 96, 100, 0, 0, 0, 0))],
  [(96, (.iconst 1, 97, 0, 0, 0, 1, 0)), (97, (.goto 4, 100, 101, 0, 0, 0, 0)), (100, (.iconst 0, 101, 0, 0, 0, 0, 0)), (101, (.istore 6, 103, 0, 0, 0, 0, 0)), (103, (.iload 6, 105, 0, 0, 0, 0, 0)), (105, (.ifCond .eq 6, 108, 111, 0, 0, 0, 0)), (108, (.bipush (-13), 110, 0, 0, 0, (-13), 0)), (110, (.ireturn, 111, 0, 0, 0, 0, 0)), (111, (.iconst 0, 112, 0, 0, 0, 0, 0))],
  [(112, (.istore 7, 114, 0, 0, 0, 0, 0)), (114, (.iload 7, 116, 0, 0, 0, 0, 0)), (116, (.iload 5, 118, 0, 0, 0, 0, 0)), (118, (.if_icmp .ge 51, 121, 169, 0, 0, 0, 0)), (121, (.aload_n 0, 122, 0, 0, 0, 0, 0)), (122, (.getfield 69, 125, 9, 33, 2, 0, 0)), (125, (.iload 7, 127, 0, 0, 0, 0, 0)), (127, (.aload_n 0, 128, 0, 0, 0, 0, 0))],
  [(128, (.getfield 62, 131, 9, 31, 2, 0, 0)), (131, (.bipush 40, 133, 0, 0, 0, 40, 0)), (133, (.iload_n 1, 134, 0, 0, 0, 0, 0)), (134, (.imul, 135, 0, 0, 0, 0, 0)), (135, (.iload_n 2, 136, 0, 0, 0, 0, 0)), (136, (.iadd, 137, 0, 0, 0, 0, 0)), (137, (.iload 7, 139, 0, 0, 0, 0, 0)), (139, (.iadd, 140, 0, 0, 0, 0, 0)), (140, (.laload, 141, 0, 0, 0, 0, 0)), (141, (.lastore, 142, 0, 0, 0, 0, 0)), (142, (.aload_n 0, 143, 0, 0, 0, 0, 0)), (143, (.getfield 72, 146, 9, 34, 2, 0, 0))],
  [(146, (.iload 7, 148, 0, 0, 0, 0, 0)), (148, (.aload_n 0, 149, 0, 0, 0, 0, 0)), (149, (.getfield 65, 152, 9, 32, 2, 0, 0)), (152, (.bipush 40, 154, 0, 0, 0, 40, 0)), (154, (.iload_n 1, 155, 0, 0, 0, 0, 0)), (155, (.imul, 156, 0, 0, 0, 0, 0)), (156, (.iload_n 2, 157, 0, 0, 0, 0, 0)), (157, (.iadd, 158, 0, 0, 0, 0, 0)), (158, (.iload 7, 160, 0, 0, 0, 0, 0))],
  [(160, (.iadd, 161, 0, 0, 0, 0, 0)), (161, (.daload, 162, 0, 0, 0, 0, 0)), (162, (.dastore, 163, 0, 0, 0, 0, 0)), (163, (.iinc 7 1, 166, 0, 0, 0, 1, 0)), (166, (.goto (-52), 169, 114, 0, 0, 0, 0)), (169, (.iconst 0, 170, 0, 0, 0, 0, 0)), (170, (.istore 7, 172, 0, 0, 0, 0, 0)), (172, (.iload 7, 174, 0, 0, 0, 0, 0)), (174, (.iload 5, 176, 0, 0, 0, 0, 0))],
  [(176, (.if_icmp .ge 53, 179, 229, 0, 0, 0, 0)), (179, (.aload_n 0, 180, 0, 0, 0, 0, 0)), (180, (.getfield 62, 183, 9, 31, 2, 0, 0)), (183, (.bipush 40, 185, 0, 0, 0, 40, 0)), (185, (.iload_n 3, 186, 0, 0, 0, 0, 0)), (186, (.imul, 187, 0, 0, 0, 0, 0)), (187, (.iload 4, 189, 0, 0, 0, 0, 0)), (189, (.iadd, 190, 0, 0, 0, 0, 0)), (190, (.iload 7, 192, 0, 0, 0, 0, 0))],
  [(192, (.iadd, 193, 0, 0, 0, 0, 0)), (193, (.aload_n 0, 194, 0, 0, 0, 0, 0)), (194, (.getfield 69, 197, 9, 33, 2, 0, 0)), (197, (.iload 7, 199, 0, 0, 0, 0, 0)), (199, (.laload, 200, 0, 0, 0, 0, 0)), (200, (.lastore, 201, 0, 0, 0, 0, 0)), (201, (.aload_n 0, 202, 0, 0, 0, 0, 0)), (202, (.getfield 65, 205, 9, 32, 2, 0, 0)), (205, (.bipush 40, 207, 0, 0, 0, 40, 0)), (207, (.iload_n 3, 208, 0, 0, 0, 0, 0))],
  [(208, (.imul, 209, 0, 0, 0, 0, 0)), (209, (.iload 4, 211, 0, 0, 0, 0, 0)), (211, (.iadd, 212, 0, 0, 0, 0, 0)), (212, (.iload 7, 214, 0, 0, 0, 0, 0)), (214, (.iadd, 215, 0, 0, 0, 0, 0)), (215, (.aload_n 0, 216, 0, 0, 0, 0, 0)), (216, (.getfield 72, 219, 9, 34, 2, 0, 0)), (219, (.iload 7, 221, 0, 0, 0, 0, 0)), (221, (.daload, 222, 0, 0, 0, 0, 0)), (222, (.dastore, 223, 0, 0, 0, 0, 0)), (223, (.iinc 7 1, 226, 0, 0, 0, 1, 0))],
  [(226, (.goto (-54), 229, 172, 0, 0, 0, 0)), (229, (.iload 5, 231, 0, 0, 0, 0, 0)), (231, (.ireturn, 232, 0, 0, 0, 0, 0))]]
def md_X9_copyElements : mMd := (yX9_copyElements, 9, cX9_copyElements, 8, (some .int), mt_X9_copyElements)
def mt_X9_replay : mTab := [[(0, (.iload_n 1, 1, 0, 0, 0, 0, 0)), (1, (.invokestatic 269, 4, 185, 1, 0, 0, 0)), (4, (.ifCond .ne 5, 7, 9, 0, 0, 0, 0)), (7, (.iconst (-1), 8, 0, 0, 0, (-1), 0)), (8, (.ireturn, 9, 0, 0, 0, 0, 0)), (9, (.aload_n 0, 10, 0, 0, 0, 0, 0)), (10, (.getfield 56, 13, 9, 29, 2, 0, 0)), (13, (.iload_n 1, 14, 0, 0, 0, 0, 0)), (14, (.iaload, 15, 0, 0, 0, 0, 0)), (15, (.ifCond .ge 6, 18, 21, 0, 0, 0, 0))],
  [(18, (.bipush (-11), 20, 0, 0, 0, (-11), 0)), (20, (.ireturn, 21, 0, 0, 0, 0, 0)), (21, (.aload_n 0, 22, 0, 0, 0, 0, 0)), (22, (.getfield 56, 25, 9, 29, 2, 0, 0)), (25, (.iload_n 1, 26, 0, 0, 0, 0, 0)), (26, (.iaload, 27, 0, 0, 0, 0, 0)), (27, (.ifCond .eq 6, 30, 33, 0, 0, 0, 0)), (30, (.bipush (-12), 32, 0, 0, 0, (-12), 0))],
  [(32, (.ireturn, 33, 0, 0, 0, 0, 0)), (33, (.aload_n 0, 34, 0, 0, 0, 0, 0)), (34, (.iload_n 2, 35, 0, 0, 0, 0, 0)), (35, (.invokevirtual 133, 38, 119, 2, 9, 0, 0)), (38, (.ifCond .ne 6, 41, 44, 0, 0, 0, 0)), (41, (.bipush (-2), 43, 0, 0, 0, (-2), 0)), (43, (.ireturn, 44, 0, 0, 0, 0, 0)), (44, (.aload_n 0, 45, 0, 0, 0, 0, 0)), (45, (.getfield 15, 48, 9, 1, 2, 0, 0))],
  [(48, (.iload_n 2, 49, 0, 0, 0, 0, 0)), (49, (.iaload, 50, 0, 0, 0, 0, 0)), (50, (.ifCond .eq 10, 53, 60, 0, 0, 0, 0)), (53, (.iload_n 3, 54, 0, 0, 0, 0, 0)), (54, (.invokestatic 238, 57, 166, 1, 0, 0, 0)), (57, (.ifCond .ne 5, 60, 62, 0, 0, 0, 0)), (60, (.iconst (-1), 61, 0, 0, 0, (-1), 0)), (61, (.ireturn, 62, 0, 0, 0, 0, 0)), (62, (.aload_n 0, 63, 0, 0, 0, 0, 0)), (63, (.iload_n 2, 64, 0, 0, 0, 0, 0))],
  [(64, (.iload_n 3, 65, 0, 0, 0, 0, 0)), (65, (.iconst 0, 66, 0, 0, 0, 0, 0)), (66, (.invokevirtual 250, 69, 172, 4, 9, 0, 0)), (69, (.iconst 1, 70, 0, 0, 0, 1, 0)), (70, (.istore 4, 72, 0, 0, 0, 0, 0)), (72, (.iconst 0, 73, 0, 0, 0, 0, 0)), (73, (.istore 5, 75, 0, 0, 0, 0, 0)), (75, (.iload 5, 77, 0, 0, 0, 0, 0)), (77, (.iconst 1, 78, 0, 0, 0, 1, 0)), (78, (.iadd, 79, 0, 0, 0, 0, 0)), (79, (.aload_n 0, 80, 0, 0, 0, 0, 0))],
  [(80, (.getfield 59, 83, 9, 30, 2, 0, 0)), (83, (.iload_n 1, 84, 0, 0, 0, 0, 0)), (84, (.iaload, 85, 0, 0, 0, 0, 0)), (85, (.if_icmp .ge 63, 88, 148, 0, 0, 0, 0)), (88, (.iload 4, 90, 0, 0, 0, 0, 0)), (90, (.ifCond .eq 58, 93, 148, 0, 0, 0, 0)), (93, (.aload_n 0, 94, 0, 0, 0, 0, 0)), (94, (.aload_n 0, 95, 0, 0, 0, 0, 0)), (95, (.getfield 62, 98, 9, 31, 2, 0, 0))],
  [(98, (.bipush 40, 100, 0, 0, 0, 40, 0)), (100, (.iload_n 1, 101, 0, 0, 0, 0, 0)), (101, (.imul, 102, 0, 0, 0, 0, 0)), (102, (.iload 5, 104, 0, 0, 0, 0, 0)), (104, (.iadd, 105, 0, 0, 0, 0, 0)), (105, (.laload, 106, 0, 0, 0, 0, 0)), (106, (.l2i, 107, 0, 0, 0, 0, 0)), (107, (.aload_n 0, 108, 0, 0, 0, 0, 0)), (108, (.getfield 62, 111, 9, 31, 2, 0, 0)), (111, (.bipush 40, 113, 0, 0, 0, 40, 0))],
  [(113, (.iload_n 1, 114, 0, 0, 0, 0, 0)), (114, (.imul, 115, 0, 0, 0, 0, 0)), (115, (.iload 5, 117, 0, 0, 0, 0, 0)), (117, (.iadd, 118, 0, 0, 0, 0, 0)), (118, (.iconst 1, 119, 0, 0, 0, 1, 0)), (119, (.iadd, 120, 0, 0, 0, 0, 0)), (120, (.laload, 121, 0, 0, 0, 0, 0)), (121, (.l2i, 122, 0, 0, 0, 0, 0)), (122, (.invokevirtual 263, 125, 178, 3, 9, 0, 0)), (125, (.ifCond .lt 14, 128, 139, 0, 0, 0, 0))],
  [(128, (.aload_n 0, 129, 0, 0, 0, 0, 0)), (129, (.getfield 244, 132, 9, 25, 3, 0, 0)), (132, (.ifCond .ne 7, 135, 139, 0, 0, 0, 0)), (135, (.iconst 1, 136, 0, 0, 0, 1, 0)), (136, (.goto 4, 139, 140, 0, 0, 0, 0)), (139, (.iconst 0, 140, 0, 0, 0, 0, 0)), (140, (.istore 4, 142, 0, 0, 0, 0, 0)), (142, (.iinc 5 2, 145, 0, 0, 0, 2, 0))],
  [(145, (.goto (-70), 148, 75, 0, 0, 0, 0)), (148, (.aload_n 0, 149, 0, 0, 0, 0, 0)), (149, (.getfield 247, 152, 9, 26, 0, 0, 0)), (152, (.aload_n 0, 153, 0, 0, 0, 0, 0)), (153, (.getfield 244, 156, 9, 25, 3, 0, 0)), (156, (.ifCond .eq 9, 159, 165, 0, 0, 0, 0)), (159, (.sipush 1000, 162, 0, 0, 0, 1000, 0))],
  [(162, (.goto 4, 165, 166, 0, 0, 0, 0)), (165, (.iconst 0, 166, 0, 0, 0, 0, 0)), (166, (.iadd, 167, 0, 0, 0, 0, 0)), (167, (.ireturn, 168, 0, 0, 0, 0, 0))]]
def md_X9_replay : mMd := (yX9_replay, 9, cX9_replay, 6, (some .int), mt_X9_replay)
def mt_J9_max : mTab := [[(0, (.iload_n 0, 1, 0, 0, 0, 0, 0)), (1, (.iload_n 1, 2, 0, 0, 0, 0, 0)), (2, (.if_icmp .lt 7, 5, 9, 0, 0, 0, 0)), (5, (.iload_n 0, 6, 0, 0, 0, 0, 0)), (6, (.goto 4, 9, 10, 0, 0, 0, 0)), (9, (.iload_n 1, 10, 0, 0, 0, 0, 0)), (10, (.ireturn, 11, 0, 0, 0, 0, 0))]]
def md_J9_max : mMd := (yJ9_max_7cf53, 12, cJ9_max_7cf53, 2, (some .int), mt_J9_max)
def mt_J9_min : mTab := [[(0, (.iload_n 0, 1, 0, 0, 0, 0, 0)), (1, (.iload_n 1, 2, 0, 0, 0, 0, 0)), (2, (.if_icmp .gt 7, 5, 9, 0, 0, 0, 0)), (5, (.iload_n 0, 6, 0, 0, 0, 0, 0)), (6, (.goto 4, 9, 10, 0, 0, 0, 0)), (9, (.iload_n 1, 10, 0, 0, 0, 0, 0)), (10, (.ireturn, 11, 0, 0, 0, 0, 0))]]
def md_J9_min : mMd := (yJ9_min_7cf53, 12, cJ9_min_7cf53, 2, (some .int), mt_J9_min)
def mt_J7_fillD : mTab := [[(0, (.iconst 0, 1, 0, 0, 0, 0, 0)), (1, (.istore_n 3, 2, 0, 0, 0, 0, 0)), (2, (.aload_n 0, 3, 0, 0, 0, 0, 0)), (3, (.arraylength, 4, 0, 0, 0, 0, 0)), (4, (.istore 4, 6, 0, 0, 0, 0, 0)), (6, (.iload_n 3, 7, 0, 0, 0, 0, 0)), (7, (.iload 4, 9, 0, 0, 0, 0, 0)), (9, (.if_icmp .ge 13, 12, 22, 0, 0, 0, 0)), (12, (.aload_n 0, 13, 0, 0, 0, 0, 0)), (13, (.iload_n 3, 14, 0, 0, 0, 0, 0)), (14, (.dload_n 1, 15, 0, 0, 0, 0, 0)), (15, (.dastore, 16, 0, 0, 0, 0, 0))],
  [(16, (.iinc 3 1, 19, 0, 0, 0, 1, 0)), (19, (.goto (-13), 22, 6, 0, 0, 0, 0)), (22, (.return_, 23, 0, 0, 0, 0, 0))]]
def md_J7_fillD : mMd := (yJ7_fill_7f8df, 13, cJ7_fill_7f8df, 5, (none : Option Jvm.ClassFile.FieldType), mt_J7_fillD)
def mt_J7_fillI : mTab := [[(0, (.iconst 0, 1, 0, 0, 0, 0, 0)), (1, (.istore_n 2, 2, 0, 0, 0, 0, 0)), (2, (.aload_n 0, 3, 0, 0, 0, 0, 0)), (3, (.arraylength, 4, 0, 0, 0, 0, 0)), (4, (.istore_n 3, 5, 0, 0, 0, 0, 0)), (5, (.iload_n 2, 6, 0, 0, 0, 0, 0)), (6, (.iload_n 3, 7, 0, 0, 0, 0, 0)), (7, (.if_icmp .ge 13, 10, 20, 0, 0, 0, 0)), (10, (.aload_n 0, 11, 0, 0, 0, 0, 0)), (11, (.iload_n 2, 12, 0, 0, 0, 0, 0)), (12, (.iload_n 1, 13, 0, 0, 0, 0, 0)), (13, (.iastore, 14, 0, 0, 0, 0, 0)), (14, (.iinc 2 1, 17, 0, 0, 0, 1, 0))],
  [(17, (.goto (-12), 20, 5, 0, 0, 0, 0)), (20, (.return_, 21, 0, 0, 0, 0, 0))]]
def md_J7_fillI : mMd := (yJ7_fill_53178, 13, cJ7_fill_53178, 4, (none : Option Jvm.ClassFile.FieldType), mt_J7_fillI)
def mt_J7_fillL : mTab := [[(0, (.iconst 0, 1, 0, 0, 0, 0, 0)), (1, (.istore_n 3, 2, 0, 0, 0, 0, 0)), (2, (.aload_n 0, 3, 0, 0, 0, 0, 0)), (3, (.arraylength, 4, 0, 0, 0, 0, 0)), (4, (.istore 4, 6, 0, 0, 0, 0, 0)), (6, (.iload_n 3, 7, 0, 0, 0, 0, 0)), (7, (.iload 4, 9, 0, 0, 0, 0, 0)), (9, (.if_icmp .ge 13, 12, 22, 0, 0, 0, 0)), (12, (.aload_n 0, 13, 0, 0, 0, 0, 0)), (13, (.iload_n 3, 14, 0, 0, 0, 0, 0)), (14, (.lload_n 1, 15, 0, 0, 0, 0, 0)), (15, (.lastore, 16, 0, 0, 0, 0, 0))],
  [(16, (.iinc 3 1, 19, 0, 0, 0, 1, 0)), (19, (.goto (-13), 22, 6, 0, 0, 0, 0)), (22, (.return_, 23, 0, 0, 0, 0, 0))]]
def md_J7_fillL : mMd := (yJ7_fill_d0a16, 13, cJ7_fill_d0a16, 5, (none : Option Jvm.ClassFile.FieldType), mt_J7_fillL)
def mt_J7_copyOf : mTab := [[(0, (.iload_n 1, 1, 0, 0, 0, 0, 0)), (1, (.aload_n 0, 2, 0, 0, 0, 0, 0)), (2, (.arraylength, 3, 0, 0, 0, 0, 0)), (3, (.if_icmp .ne 11, 6, 14, 0, 0, 0, 0)), (6, (.aload_n 0, 7, 0, 0, 0, 0, 0)), (7, (.invokevirtual 316, 10, 1009, 0, 0, 0, 0)), (10, (.checkcast 317, 13, 0, 0, 0, 0, 0)), (13, (.areturn, 14, 0, 0, 0, 0, 0)), (14, (.iload_n 1, 15, 0, 0, 0, 0, 0)), (15, (.newarray .int, 17, 100, 0, 0, 0, 0))],
  [(17, (.astore_n 2, 18, 0, 0, 0, 0, 0)), (18, (.aload_n 0, 19, 0, 0, 0, 0, 0)), (19, (.iconst 0, 20, 0, 0, 0, 0, 0)), (20, (.aload_n 2, 21, 0, 0, 0, 0, 0)), (21, (.iconst 0, 22, 0, 0, 0, 0, 0)), (22, (.aload_n 0, 23, 0, 0, 0, 0, 0)), (23, (.arraylength, 24, 0, 0, 0, 0, 0)), (24, (.iload_n 1, 25, 0, 0, 0, 0, 0)), (25, (.invokestatic 304, 28, 194, 2, 0, 0, 0)), (28, (.invokestatic 150, 31, 1000, 5, 0, 0, 0)), (31, (.aload_n 2, 32, 0, 0, 0, 0, 0))],
  [(32, (.areturn, 33, 0, 0, 0, 0, 0))]]
def md_J7_copyOf : mMd := (yJ7_copyOf_59c91, 13, cJ7_copyOf_59c91, 3, (some (.array .int)), mt_J7_copyOf)
def mt_law_0 : mTab := [[(0, (.new 7, 3, 8, 7, 0, 0, 0)), (3, (.dup, 4, 0, 0, 0, 0, 0)), (4, (.invokespecial 9, 7, 75, 1, 0, 0, 0)), (7, (.astore_n 1, 8, 0, 0, 0, 0, 0)), (8, (.new 10, 11, 9, 35, 0, 0, 0)), (11, (.dup, 12, 0, 0, 0, 0, 0)), (12, (.invokespecial 12, 15, 117, 1, 0, 0, 0)), (15, (.astore_n 2, 16, 0, 0, 0, 0, 0))],
  [(16, (.iconst 0, 17, 0, 0, 0, 0, 0)), (17, (.istore_n 3, 18, 0, 0, 0, 0, 0)), (18, (.iload_n 3, 19, 0, 0, 0, 0, 0)), (19, (.aload_n 0, 20, 0, 0, 0, 0, 0)), (20, (.arraylength, 21, 0, 0, 0, 0, 0)), (21, (.bipush 6, 23, 0, 0, 0, 6, 0)), (23, (.isub, 24, 0, 0, 0, 0, 0)), (24, (.if_icmp .gt 1132, 27, 1156, 0, 0, 0, 0)), (27, (.aload_n 0, 28, 0, 0, 0, 0, 0)), (28, (.iload_n 3, 29, 0, 0, 0, 0, 0)), (29, (.iaload, 30, 0, 0, 0, 0, 0)), (30, (.bipush 63, 32, 0, 0, 0, 63, 0))],
  [(32, (.iand, 33, 0, 0, 0, 0, 0)), (33, (.tableswitch 1117 0 33 #[151, 164, 177, 210, 223, 236, 259, 302, 325, 358, 381, 405, 428, 461, 484, 517, 550, 573, 616, 630, 644, 657, 690, 723, 736, 749, 762, 785, 828, 851, 924, 958, 1011, 1074], 184, 0, 0, 0, 0, 0))],
  []]
def mt_law_1 : mTab := [[],
  [],
  [],
  []]
def mt_law_2 : mTab := [[],
  [],
  [],
  [(184, (.aload_n 1, 185, 0, 0, 0, 0, 0)), (185, (.invokevirtual 13, 188, 76, 1, 8, 0, 0)), (188, (.aload_n 2, 189, 0, 0, 0, 0, 0)), (189, (.invokevirtual 17, 192, 122, 1, 9, 0, 0))]]
def mt_law_3 : mTab := [[(192, (.if_icmp .eq 958, 195, 1150, 0, 0, 0, 0)), (195, (.iconst 0, 196, 0, 0, 0, 0, 0)), (196, (.ireturn, 197, 0, 0, 0, 0, 0)), (197, (.aload_n 1, 198, 0, 0, 0, 0, 0)), (198, (.invokevirtual 18, 201, 77, 1, 8, 0, 0)), (201, (.aload_n 2, 202, 0, 0, 0, 0, 0)), (202, (.invokevirtual 21, 205, 123, 1, 9, 0, 0)), (205, (.if_icmp .eq 945, 208, 1150, 0, 0, 0, 0))],
  [(208, (.iconst 0, 209, 0, 0, 0, 0, 0)), (209, (.ireturn, 210, 0, 0, 0, 0, 0)), (210, (.aload_n 1, 211, 0, 0, 0, 0, 0)), (211, (.aload_n 0, 212, 0, 0, 0, 0, 0)), (212, (.iload_n 3, 213, 0, 0, 0, 0, 0)), (213, (.iconst 1, 214, 0, 0, 0, 1, 0)), (214, (.iadd, 215, 0, 0, 0, 0, 0)), (215, (.iaload, 216, 0, 0, 0, 0, 0)), (216, (.aload_n 0, 217, 0, 0, 0, 0, 0)), (217, (.iload_n 3, 218, 0, 0, 0, 0, 0)), (218, (.iconst 2, 219, 0, 0, 0, 2, 0)), (219, (.iadd, 220, 0, 0, 0, 0, 0)), (220, (.iaload, 221, 0, 0, 0, 0, 0)), (221, (.invokevirtual 22, 224, 78, 3, 8, 0, 0))],
  [(224, (.aload_n 2, 225, 0, 0, 0, 0, 0)), (225, (.aload_n 0, 226, 0, 0, 0, 0, 0)), (226, (.iload_n 3, 227, 0, 0, 0, 0, 0)), (227, (.iconst 1, 228, 0, 0, 0, 1, 0)), (228, (.iadd, 229, 0, 0, 0, 0, 0)), (229, (.iaload, 230, 0, 0, 0, 0, 0)), (230, (.aload_n 0, 231, 0, 0, 0, 0, 0)), (231, (.iload_n 3, 232, 0, 0, 0, 0, 0)), (232, (.iconst 2, 233, 0, 0, 0, 2, 0)), (233, (.iadd, 234, 0, 0, 0, 0, 0)), (234, (.iaload, 235, 0, 0, 0, 0, 0)), (235, (.invokevirtual 26, 238, 124, 3, 9, 0, 0)), (238, (.if_icmp .eq 912, 241, 1150, 0, 0, 0, 0))],
  [(241, (.iconst 0, 242, 0, 0, 0, 0, 0)), (242, (.ireturn, 243, 0, 0, 0, 0, 0)), (243, (.aload_n 1, 244, 0, 0, 0, 0, 0)), (244, (.invokevirtual 27, 247, 79, 1, 8, 0, 0)), (247, (.aload_n 2, 248, 0, 0, 0, 0, 0)), (248, (.invokevirtual 30, 251, 125, 1, 9, 0, 0)), (251, (.if_icmp .eq 899, 254, 1150, 0, 0, 0, 0)), (254, (.iconst 0, 255, 0, 0, 0, 0, 0)), (255, (.ireturn, 256, 0, 0, 0, 0, 0))]]
def mt_law_4 : mTab := [[(256, (.aload_n 1, 257, 0, 0, 0, 0, 0)), (257, (.invokevirtual 31, 260, 80, 1, 8, 0, 0)), (260, (.aload_n 2, 261, 0, 0, 0, 0, 0)), (261, (.invokevirtual 34, 264, 133, 1, 9, 0, 0)), (264, (.if_icmp .eq 886, 267, 1150, 0, 0, 0, 0)), (267, (.iconst 0, 268, 0, 0, 0, 0, 0)), (268, (.ireturn, 269, 0, 0, 0, 0, 0)), (269, (.aload_n 1, 270, 0, 0, 0, 0, 0)), (270, (.aload_n 0, 271, 0, 0, 0, 0, 0)), (271, (.iload_n 3, 272, 0, 0, 0, 0, 0))],
  [(272, (.iconst 1, 273, 0, 0, 0, 1, 0)), (273, (.iadd, 274, 0, 0, 0, 0, 0)), (274, (.iaload, 275, 0, 0, 0, 0, 0)), (275, (.invokevirtual 35, 278, 81, 2, 8, 0, 0)), (278, (.aload_n 2, 279, 0, 0, 0, 0, 0)), (279, (.aload_n 0, 280, 0, 0, 0, 0, 0)), (280, (.iload_n 3, 281, 0, 0, 0, 0, 0)), (281, (.iconst 1, 282, 0, 0, 0, 1, 0)), (282, (.iadd, 283, 0, 0, 0, 0, 0)), (283, (.iaload, 284, 0, 0, 0, 0, 0)), (284, (.invokevirtual 39, 287, 134, 2, 9, 0, 0)), (287, (.if_icmp .eq 863, 290, 1150, 0, 0, 0, 0))],
  [(290, (.iconst 0, 291, 0, 0, 0, 0, 0)), (291, (.ireturn, 292, 0, 0, 0, 0, 0)), (292, (.aload_n 1, 293, 0, 0, 0, 0, 0)), (293, (.aload_n 0, 294, 0, 0, 0, 0, 0)), (294, (.iload_n 3, 295, 0, 0, 0, 0, 0)), (295, (.iconst 1, 296, 0, 0, 0, 1, 0)), (296, (.iadd, 297, 0, 0, 0, 0, 0)), (297, (.iaload, 298, 0, 0, 0, 0, 0)), (298, (.aload_n 0, 299, 0, 0, 0, 0, 0)), (299, (.iload_n 3, 300, 0, 0, 0, 0, 0)), (300, (.iconst 2, 301, 0, 0, 0, 2, 0)), (301, (.iadd, 302, 0, 0, 0, 0, 0)), (302, (.iaload, 303, 0, 0, 0, 0, 0)), (303, (.aload_n 0, 304, 0, 0, 0, 0, 0))],
  [(304, (.iload_n 3, 305, 0, 0, 0, 0, 0)), (305, (.iconst 3, 306, 0, 0, 0, 3, 0)), (306, (.iadd, 307, 0, 0, 0, 0, 0)), (307, (.iaload, 308, 0, 0, 0, 0, 0)), (308, (.invokevirtual 40, 311, 82, 4, 8, 0, 0)), (311, (.aload_n 2, 312, 0, 0, 0, 0, 0)), (312, (.aload_n 0, 313, 0, 0, 0, 0, 0)), (313, (.iload_n 3, 314, 0, 0, 0, 0, 0)), (314, (.iconst 1, 315, 0, 0, 0, 1, 0)), (315, (.iadd, 316, 0, 0, 0, 0, 0)), (316, (.iaload, 317, 0, 0, 0, 0, 0)), (317, (.aload_n 0, 318, 0, 0, 0, 0, 0)), (318, (.iload_n 3, 319, 0, 0, 0, 0, 0)), (319, (.iconst 2, 320, 0, 0, 0, 2, 0))]]
def mt_law_5 : mTab := [[(320, (.iadd, 321, 0, 0, 0, 0, 0)), (321, (.iaload, 322, 0, 0, 0, 0, 0)), (322, (.aload_n 0, 323, 0, 0, 0, 0, 0)), (323, (.iload_n 3, 324, 0, 0, 0, 0, 0)), (324, (.iconst 3, 325, 0, 0, 0, 3, 0)), (325, (.iadd, 326, 0, 0, 0, 0, 0)), (326, (.iaload, 327, 0, 0, 0, 0, 0)), (327, (.invokevirtual 44, 330, 135, 4, 9, 0, 0)), (330, (.if_icmp .eq 820, 333, 1150, 0, 0, 0, 0)), (333, (.iconst 0, 334, 0, 0, 0, 0, 0)), (334, (.ireturn, 335, 0, 0, 0, 0, 0)), (335, (.aload_n 1, 336, 0, 0, 0, 0, 0))],
  [(336, (.aload_n 0, 337, 0, 0, 0, 0, 0)), (337, (.iload_n 3, 338, 0, 0, 0, 0, 0)), (338, (.iconst 1, 339, 0, 0, 0, 1, 0)), (339, (.iadd, 340, 0, 0, 0, 0, 0)), (340, (.iaload, 341, 0, 0, 0, 0, 0)), (341, (.invokevirtual 45, 344, 83, 2, 8, 0, 0)), (344, (.aload_n 2, 345, 0, 0, 0, 0, 0)), (345, (.aload_n 0, 346, 0, 0, 0, 0, 0)), (346, (.iload_n 3, 347, 0, 0, 0, 0, 0)), (347, (.iconst 1, 348, 0, 0, 0, 1, 0)), (348, (.iadd, 349, 0, 0, 0, 0, 0)), (349, (.iaload, 350, 0, 0, 0, 0, 0)), (350, (.invokevirtual 48, 353, 136, 2, 9, 0, 0))],
  [(353, (.if_icmp .eq 797, 356, 1150, 0, 0, 0, 0)), (356, (.iconst 0, 357, 0, 0, 0, 0, 0)), (357, (.ireturn, 358, 0, 0, 0, 0, 0)), (358, (.aload_n 1, 359, 0, 0, 0, 0, 0)), (359, (.aload_n 0, 360, 0, 0, 0, 0, 0)), (360, (.iload_n 3, 361, 0, 0, 0, 0, 0)), (361, (.iconst 1, 362, 0, 0, 0, 1, 0)), (362, (.iadd, 363, 0, 0, 0, 0, 0)), (363, (.iaload, 364, 0, 0, 0, 0, 0)), (364, (.aload_n 0, 365, 0, 0, 0, 0, 0)), (365, (.iload_n 3, 366, 0, 0, 0, 0, 0)), (366, (.iconst 2, 367, 0, 0, 0, 2, 0)), (367, (.iadd, 368, 0, 0, 0, 0, 0))],
  [(368, (.iaload, 369, 0, 0, 0, 0, 0)), (369, (.invokevirtual 49, 372, 84, 3, 8, 0, 0)), (372, (.aload_n 2, 373, 0, 0, 0, 0, 0)), (373, (.aload_n 0, 374, 0, 0, 0, 0, 0)), (374, (.iload_n 3, 375, 0, 0, 0, 0, 0)), (375, (.iconst 1, 376, 0, 0, 0, 1, 0)), (376, (.iadd, 377, 0, 0, 0, 0, 0)), (377, (.iaload, 378, 0, 0, 0, 0, 0)), (378, (.aload_n 0, 379, 0, 0, 0, 0, 0)), (379, (.iload_n 3, 380, 0, 0, 0, 0, 0)), (380, (.iconst 2, 381, 0, 0, 0, 2, 0)), (381, (.iadd, 382, 0, 0, 0, 0, 0)), (382, (.iaload, 383, 0, 0, 0, 0, 0)), (383, (.invokevirtual 52, 386, 137, 3, 9, 0, 0))]]
def mt_law_6 : mTab := [[(386, (.if_icmp .eq 764, 389, 1150, 0, 0, 0, 0)), (389, (.iconst 0, 390, 0, 0, 0, 0, 0)), (390, (.ireturn, 391, 0, 0, 0, 0, 0)), (391, (.aload_n 1, 392, 0, 0, 0, 0, 0)), (392, (.aload_n 0, 393, 0, 0, 0, 0, 0)), (393, (.iload_n 3, 394, 0, 0, 0, 0, 0)), (394, (.iconst 1, 395, 0, 0, 0, 1, 0)), (395, (.iadd, 396, 0, 0, 0, 0, 0)), (396, (.iaload, 397, 0, 0, 0, 0, 0)), (397, (.invokevirtual 53, 400, 85, 2, 8, 0, 0))],
  [(400, (.aload_n 2, 401, 0, 0, 0, 0, 0)), (401, (.aload_n 0, 402, 0, 0, 0, 0, 0)), (402, (.iload_n 3, 403, 0, 0, 0, 0, 0)), (403, (.iconst 1, 404, 0, 0, 0, 1, 0)), (404, (.iadd, 405, 0, 0, 0, 0, 0)), (405, (.iaload, 406, 0, 0, 0, 0, 0)), (406, (.invokevirtual 56, 409, 138, 2, 9, 0, 0)), (409, (.if_icmp .eq 741, 412, 1150, 0, 0, 0, 0)), (412, (.iconst 0, 413, 0, 0, 0, 0, 0)), (413, (.ireturn, 414, 0, 0, 0, 0, 0)), (414, (.aload_n 1, 415, 0, 0, 0, 0, 0)), (415, (.aload_n 0, 416, 0, 0, 0, 0, 0))],
  [(416, (.iload_n 3, 417, 0, 0, 0, 0, 0)), (417, (.iconst 1, 418, 0, 0, 0, 1, 0)), (418, (.iadd, 419, 0, 0, 0, 0, 0)), (419, (.iaload, 420, 0, 0, 0, 0, 0)), (420, (.invokevirtual 57, 423, 86, 2, 8, 0, 0)), (423, (.aload_n 2, 424, 0, 0, 0, 0, 0)), (424, (.aload_n 0, 425, 0, 0, 0, 0, 0)), (425, (.iload_n 3, 426, 0, 0, 0, 0, 0)), (426, (.iconst 1, 427, 0, 0, 0, 1, 0)), (427, (.iadd, 428, 0, 0, 0, 0, 0)), (428, (.iaload, 429, 0, 0, 0, 0, 0)), (429, (.invokevirtual 61, 432, 139, 2, 9, 0, 0))],
  [(432, (.lcmp, 433, 0, 0, 0, 0, 0)), (433, (.ifCond .eq 717, 436, 1150, 0, 0, 0, 0)), (436, (.iconst 0, 437, 0, 0, 0, 0, 0)), (437, (.ireturn, 438, 0, 0, 0, 0, 0)), (438, (.aload_n 1, 439, 0, 0, 0, 0, 0)), (439, (.aload_n 0, 440, 0, 0, 0, 0, 0)), (440, (.iload_n 3, 441, 0, 0, 0, 0, 0)), (441, (.iconst 1, 442, 0, 0, 0, 1, 0)), (442, (.iadd, 443, 0, 0, 0, 0, 0)), (443, (.iaload, 444, 0, 0, 0, 0, 0)), (444, (.invokevirtual 62, 447, 87, 2, 8, 0, 0)), (447, (.aload_n 2, 448, 0, 0, 0, 0, 0))]]
def mt_law_7 : mTab := [[(448, (.aload_n 0, 449, 0, 0, 0, 0, 0)), (449, (.iload_n 3, 450, 0, 0, 0, 0, 0)), (450, (.iconst 1, 451, 0, 0, 0, 1, 0)), (451, (.iadd, 452, 0, 0, 0, 0, 0)), (452, (.iaload, 453, 0, 0, 0, 0, 0)), (453, (.invokevirtual 65, 456, 141, 2, 9, 0, 0)), (456, (.if_icmp .eq 694, 459, 1150, 0, 0, 0, 0)), (459, (.iconst 0, 460, 0, 0, 0, 0, 0)), (460, (.ireturn, 461, 0, 0, 0, 0, 0)), (461, (.aload_n 1, 462, 0, 0, 0, 0, 0)), (462, (.aload_n 0, 463, 0, 0, 0, 0, 0)), (463, (.iload_n 3, 464, 0, 0, 0, 0, 0))],
  [(464, (.iconst 1, 465, 0, 0, 0, 1, 0)), (465, (.iadd, 466, 0, 0, 0, 0, 0)), (466, (.iaload, 467, 0, 0, 0, 0, 0)), (467, (.aload_n 0, 468, 0, 0, 0, 0, 0)), (468, (.iload_n 3, 469, 0, 0, 0, 0, 0)), (469, (.iconst 2, 470, 0, 0, 0, 2, 0)), (470, (.iadd, 471, 0, 0, 0, 0, 0)), (471, (.iaload, 472, 0, 0, 0, 0, 0)), (472, (.invokevirtual 66, 475, 88, 3, 8, 0, 0)), (475, (.aload_n 2, 476, 0, 0, 0, 0, 0)), (476, (.aload_n 0, 477, 0, 0, 0, 0, 0)), (477, (.iload_n 3, 478, 0, 0, 0, 0, 0)), (478, (.iconst 1, 479, 0, 0, 0, 1, 0)), (479, (.iadd, 480, 0, 0, 0, 0, 0))],
  [(480, (.iaload, 481, 0, 0, 0, 0, 0)), (481, (.aload_n 0, 482, 0, 0, 0, 0, 0)), (482, (.iload_n 3, 483, 0, 0, 0, 0, 0)), (483, (.iconst 2, 484, 0, 0, 0, 2, 0)), (484, (.iadd, 485, 0, 0, 0, 0, 0)), (485, (.iaload, 486, 0, 0, 0, 0, 0)), (486, (.invokevirtual 69, 489, 142, 3, 9, 0, 0)), (489, (.if_icmp .eq 661, 492, 1150, 0, 0, 0, 0)), (492, (.iconst 0, 493, 0, 0, 0, 0, 0)), (493, (.ireturn, 494, 0, 0, 0, 0, 0)), (494, (.aload_n 1, 495, 0, 0, 0, 0, 0)), (495, (.aload_n 0, 496, 0, 0, 0, 0, 0))],
  [(496, (.iload_n 3, 497, 0, 0, 0, 0, 0)), (497, (.iconst 1, 498, 0, 0, 0, 1, 0)), (498, (.iadd, 499, 0, 0, 0, 0, 0)), (499, (.iaload, 500, 0, 0, 0, 0, 0)), (500, (.invokevirtual 70, 503, 89, 2, 8, 0, 0)), (503, (.aload_n 2, 504, 0, 0, 0, 0, 0)), (504, (.aload_n 0, 505, 0, 0, 0, 0, 0)), (505, (.iload_n 3, 506, 0, 0, 0, 0, 0)), (506, (.iconst 1, 507, 0, 0, 0, 1, 0)), (507, (.iadd, 508, 0, 0, 0, 0, 0)), (508, (.iaload, 509, 0, 0, 0, 0, 0)), (509, (.invokevirtual 73, 512, 149, 2, 9, 0, 0))]]
def mt_law_8 : mTab := [[(512, (.if_icmp .eq 638, 515, 1150, 0, 0, 0, 0)), (515, (.iconst 0, 516, 0, 0, 0, 0, 0)), (516, (.ireturn, 517, 0, 0, 0, 0, 0)), (517, (.aload_n 1, 518, 0, 0, 0, 0, 0)), (518, (.aload_n 0, 519, 0, 0, 0, 0, 0)), (519, (.iload_n 3, 520, 0, 0, 0, 0, 0)), (520, (.iconst 1, 521, 0, 0, 0, 1, 0)), (521, (.iadd, 522, 0, 0, 0, 0, 0)), (522, (.iaload, 523, 0, 0, 0, 0, 0)), (523, (.aload_n 0, 524, 0, 0, 0, 0, 0)), (524, (.iload_n 3, 525, 0, 0, 0, 0, 0)), (525, (.iconst 2, 526, 0, 0, 0, 2, 0)), (526, (.iadd, 527, 0, 0, 0, 0, 0)), (527, (.iaload, 528, 0, 0, 0, 0, 0))],
  [(528, (.invokevirtual 74, 531, 90, 3, 8, 0, 0)), (531, (.aload_n 2, 532, 0, 0, 0, 0, 0)), (532, (.aload_n 0, 533, 0, 0, 0, 0, 0)), (533, (.iload_n 3, 534, 0, 0, 0, 0, 0)), (534, (.iconst 1, 535, 0, 0, 0, 1, 0)), (535, (.iadd, 536, 0, 0, 0, 0, 0)), (536, (.iaload, 537, 0, 0, 0, 0, 0)), (537, (.aload_n 0, 538, 0, 0, 0, 0, 0)), (538, (.iload_n 3, 539, 0, 0, 0, 0, 0)), (539, (.iconst 2, 540, 0, 0, 0, 2, 0)), (540, (.iadd, 541, 0, 0, 0, 0, 0)), (541, (.iaload, 542, 0, 0, 0, 0, 0)), (542, (.invokevirtual 77, 545, 167, 3, 9, 0, 0))],
  [(545, (.if_icmp .eq 605, 548, 1150, 0, 0, 0, 0)), (548, (.iconst 0, 549, 0, 0, 0, 0, 0)), (549, (.ireturn, 550, 0, 0, 0, 0, 0)), (550, (.aload_n 1, 551, 0, 0, 0, 0, 0)), (551, (.aload_n 0, 552, 0, 0, 0, 0, 0)), (552, (.iload_n 3, 553, 0, 0, 0, 0, 0)), (553, (.iconst 1, 554, 0, 0, 0, 1, 0)), (554, (.iadd, 555, 0, 0, 0, 0, 0)), (555, (.iaload, 556, 0, 0, 0, 0, 0)), (556, (.aload_n 0, 557, 0, 0, 0, 0, 0)), (557, (.iload_n 3, 558, 0, 0, 0, 0, 0)), (558, (.iconst 2, 559, 0, 0, 0, 2, 0)), (559, (.iadd, 560, 0, 0, 0, 0, 0))],
  [(560, (.iaload, 561, 0, 0, 0, 0, 0)), (561, (.invokevirtual 78, 564, 91, 3, 8, 0, 0)), (564, (.aload_n 2, 565, 0, 0, 0, 0, 0)), (565, (.aload_n 0, 566, 0, 0, 0, 0, 0)), (566, (.iload_n 3, 567, 0, 0, 0, 0, 0)), (567, (.iconst 1, 568, 0, 0, 0, 1, 0)), (568, (.iadd, 569, 0, 0, 0, 0, 0)), (569, (.iaload, 570, 0, 0, 0, 0, 0)), (570, (.aload_n 0, 571, 0, 0, 0, 0, 0)), (571, (.iload_n 3, 572, 0, 0, 0, 0, 0)), (572, (.iconst 2, 573, 0, 0, 0, 2, 0)), (573, (.iadd, 574, 0, 0, 0, 0, 0)), (574, (.iaload, 575, 0, 0, 0, 0, 0)), (575, (.invokevirtual 81, 578, 168, 3, 9, 0, 0))]]
def mt_law_9 : mTab := [[(578, (.if_icmp .eq 572, 581, 1150, 0, 0, 0, 0)), (581, (.iconst 0, 582, 0, 0, 0, 0, 0)), (582, (.ireturn, 583, 0, 0, 0, 0, 0)), (583, (.aload_n 1, 584, 0, 0, 0, 0, 0)), (584, (.aload_n 0, 585, 0, 0, 0, 0, 0)), (585, (.iload_n 3, 586, 0, 0, 0, 0, 0)), (586, (.iconst 1, 587, 0, 0, 0, 1, 0)), (587, (.iadd, 588, 0, 0, 0, 0, 0)), (588, (.iaload, 589, 0, 0, 0, 0, 0)), (589, (.invokevirtual 82, 592, 92, 2, 8, 0, 0))],
  [(592, (.aload_n 2, 593, 0, 0, 0, 0, 0)), (593, (.aload_n 0, 594, 0, 0, 0, 0, 0)), (594, (.iload_n 3, 595, 0, 0, 0, 0, 0)), (595, (.iconst 1, 596, 0, 0, 0, 1, 0)), (596, (.iadd, 597, 0, 0, 0, 0, 0)), (597, (.iaload, 598, 0, 0, 0, 0, 0)), (598, (.invokevirtual 85, 601, 169, 2, 9, 0, 0)), (601, (.if_icmp .eq 549, 604, 1150, 0, 0, 0, 0)), (604, (.iconst 0, 605, 0, 0, 0, 0, 0)), (605, (.ireturn, 606, 0, 0, 0, 0, 0)), (606, (.aload_n 1, 607, 0, 0, 0, 0, 0)), (607, (.aload_n 0, 608, 0, 0, 0, 0, 0))],
  [(608, (.iload_n 3, 609, 0, 0, 0, 0, 0)), (609, (.iconst 1, 610, 0, 0, 0, 1, 0)), (610, (.iadd, 611, 0, 0, 0, 0, 0)), (611, (.iaload, 612, 0, 0, 0, 0, 0)), (612, (.aload_n 0, 613, 0, 0, 0, 0, 0)), (613, (.iload_n 3, 614, 0, 0, 0, 0, 0)), (614, (.iconst 2, 615, 0, 0, 0, 2, 0)), (615, (.iadd, 616, 0, 0, 0, 0, 0)), (616, (.iaload, 617, 0, 0, 0, 0, 0)), (617, (.aload_n 0, 618, 0, 0, 0, 0, 0)), (618, (.iload_n 3, 619, 0, 0, 0, 0, 0)), (619, (.iconst 3, 620, 0, 0, 0, 3, 0)), (620, (.iadd, 621, 0, 0, 0, 0, 0)), (621, (.iaload, 622, 0, 0, 0, 0, 0)), (622, (.invokevirtual 86, 625, 93, 4, 8, 0, 0))],
  [(625, (.aload_n 2, 626, 0, 0, 0, 0, 0)), (626, (.aload_n 0, 627, 0, 0, 0, 0, 0)), (627, (.iload_n 3, 628, 0, 0, 0, 0, 0)), (628, (.iconst 1, 629, 0, 0, 0, 1, 0)), (629, (.iadd, 630, 0, 0, 0, 0, 0)), (630, (.iaload, 631, 0, 0, 0, 0, 0)), (631, (.aload_n 0, 632, 0, 0, 0, 0, 0)), (632, (.iload_n 3, 633, 0, 0, 0, 0, 0)), (633, (.iconst 2, 634, 0, 0, 0, 2, 0)), (634, (.iadd, 635, 0, 0, 0, 0, 0)), (635, (.iaload, 636, 0, 0, 0, 0, 0)), (636, (.aload_n 0, 637, 0, 0, 0, 0, 0)), (637, (.iload_n 3, 638, 0, 0, 0, 0, 0)), (638, (.iconst 3, 639, 0, 0, 0, 3, 0)), (639, (.iadd, 640, 0, 0, 0, 0, 0))]]
def mt_law_10 : mTab := [[(640, (.iaload, 641, 0, 0, 0, 0, 0)), (641, (.invokevirtual 89, 644, 173, 4, 9, 0, 0)), (644, (.if_icmp .eq 506, 647, 1150, 0, 0, 0, 0)), (647, (.iconst 0, 648, 0, 0, 0, 0, 0)), (648, (.ireturn, 649, 0, 0, 0, 0, 0)), (649, (.aload_n 1, 650, 0, 0, 0, 0, 0)), (650, (.invokevirtual 90, 653, 94, 1, 8, 0, 0)), (653, (.aload_n 2, 654, 0, 0, 0, 0, 0)), (654, (.invokevirtual 94, 657, 174, 1, 9, 0, 0))],
  [(657, (.lcmp, 658, 0, 0, 0, 0, 0)), (658, (.ifCond .eq 492, 661, 1150, 0, 0, 0, 0)), (661, (.iconst 0, 662, 0, 0, 0, 0, 0)), (662, (.ireturn, 663, 0, 0, 0, 0, 0)), (663, (.aload_n 1, 664, 0, 0, 0, 0, 0)), (664, (.invokevirtual 95, 667, 95, 1, 8, 0, 0)), (667, (.aload_n 2, 668, 0, 0, 0, 0, 0)), (668, (.invokevirtual 98, 671, 175, 1, 9, 0, 0)), (671, (.lcmp, 672, 0, 0, 0, 0, 0))],
  [(672, (.ifCond .eq 478, 675, 1150, 0, 0, 0, 0)), (675, (.iconst 0, 676, 0, 0, 0, 0, 0)), (676, (.ireturn, 677, 0, 0, 0, 0, 0)), (677, (.aload_n 1, 678, 0, 0, 0, 0, 0)), (678, (.invokevirtual 99, 681, 96, 1, 8, 0, 0)), (681, (.aload_n 2, 682, 0, 0, 0, 0, 0)), (682, (.invokevirtual 102, 685, 176, 1, 9, 0, 0)), (685, (.if_icmp .eq 465, 688, 1150, 0, 0, 0, 0))],
  [(688, (.iconst 0, 689, 0, 0, 0, 0, 0)), (689, (.ireturn, 690, 0, 0, 0, 0, 0)), (690, (.aload_n 1, 691, 0, 0, 0, 0, 0)), (691, (.aload_n 0, 692, 0, 0, 0, 0, 0)), (692, (.iload_n 3, 693, 0, 0, 0, 0, 0)), (693, (.iconst 1, 694, 0, 0, 0, 1, 0)), (694, (.iadd, 695, 0, 0, 0, 0, 0)), (695, (.iaload, 696, 0, 0, 0, 0, 0)), (696, (.aload_n 0, 697, 0, 0, 0, 0, 0)), (697, (.iload_n 3, 698, 0, 0, 0, 0, 0)), (698, (.iconst 2, 699, 0, 0, 0, 2, 0)), (699, (.iadd, 700, 0, 0, 0, 0, 0)), (700, (.iaload, 701, 0, 0, 0, 0, 0)), (701, (.invokevirtual 103, 704, 97, 3, 8, 0, 0))]]
def mt_law_11 : mTab := [[(704, (.aload_n 2, 705, 0, 0, 0, 0, 0)), (705, (.aload_n 0, 706, 0, 0, 0, 0, 0)), (706, (.iload_n 3, 707, 0, 0, 0, 0, 0)), (707, (.iconst 1, 708, 0, 0, 0, 1, 0)), (708, (.iadd, 709, 0, 0, 0, 0, 0)), (709, (.iaload, 710, 0, 0, 0, 0, 0)), (710, (.aload_n 0, 711, 0, 0, 0, 0, 0)), (711, (.iload_n 3, 712, 0, 0, 0, 0, 0)), (712, (.iconst 2, 713, 0, 0, 0, 2, 0)), (713, (.iadd, 714, 0, 0, 0, 0, 0)), (714, (.iaload, 715, 0, 0, 0, 0, 0)), (715, (.invokevirtual 106, 718, 177, 3, 9, 0, 0)), (718, (.if_icmp .eq 432, 721, 1150, 0, 0, 0, 0))],
  [(721, (.iconst 0, 722, 0, 0, 0, 0, 0)), (722, (.ireturn, 723, 0, 0, 0, 0, 0)), (723, (.aload_n 1, 724, 0, 0, 0, 0, 0)), (724, (.aload_n 0, 725, 0, 0, 0, 0, 0)), (725, (.iload_n 3, 726, 0, 0, 0, 0, 0)), (726, (.iconst 1, 727, 0, 0, 0, 1, 0)), (727, (.iadd, 728, 0, 0, 0, 0, 0)), (728, (.iaload, 729, 0, 0, 0, 0, 0)), (729, (.aload_n 0, 730, 0, 0, 0, 0, 0)), (730, (.iload_n 3, 731, 0, 0, 0, 0, 0)), (731, (.iconst 2, 732, 0, 0, 0, 2, 0)), (732, (.iadd, 733, 0, 0, 0, 0, 0)), (733, (.iaload, 734, 0, 0, 0, 0, 0)), (734, (.invokevirtual 107, 737, 98, 3, 8, 0, 0))],
  [(737, (.aload_n 2, 738, 0, 0, 0, 0, 0)), (738, (.aload_n 0, 739, 0, 0, 0, 0, 0)), (739, (.iload_n 3, 740, 0, 0, 0, 0, 0)), (740, (.iconst 1, 741, 0, 0, 0, 1, 0)), (741, (.iadd, 742, 0, 0, 0, 0, 0)), (742, (.iaload, 743, 0, 0, 0, 0, 0)), (743, (.aload_n 0, 744, 0, 0, 0, 0, 0)), (744, (.iload_n 3, 745, 0, 0, 0, 0, 0)), (745, (.iconst 2, 746, 0, 0, 0, 2, 0)), (746, (.iadd, 747, 0, 0, 0, 0, 0)), (747, (.iaload, 748, 0, 0, 0, 0, 0)), (748, (.invokevirtual 110, 751, 179, 3, 9, 0, 0)), (751, (.if_icmp .eq 399, 754, 1150, 0, 0, 0, 0))],
  [(754, (.iconst 0, 755, 0, 0, 0, 0, 0)), (755, (.ireturn, 756, 0, 0, 0, 0, 0)), (756, (.aload_n 1, 757, 0, 0, 0, 0, 0)), (757, (.invokevirtual 111, 760, 99, 1, 8, 0, 0)), (760, (.aload_n 2, 761, 0, 0, 0, 0, 0)), (761, (.invokevirtual 114, 764, 180, 1, 9, 0, 0)), (764, (.if_icmp .eq 386, 767, 1150, 0, 0, 0, 0)), (767, (.iconst 0, 768, 0, 0, 0, 0, 0))]]
def mt_law_12 : mTab := [[(768, (.ireturn, 769, 0, 0, 0, 0, 0)), (769, (.aload_n 1, 770, 0, 0, 0, 0, 0)), (770, (.invokevirtual 115, 773, 100, 1, 8, 0, 0)), (773, (.aload_n 2, 774, 0, 0, 0, 0, 0)), (774, (.invokevirtual 118, 777, 182, 1, 9, 0, 0)), (777, (.if_icmp .eq 373, 780, 1150, 0, 0, 0, 0)), (780, (.iconst 0, 781, 0, 0, 0, 0, 0)), (781, (.ireturn, 782, 0, 0, 0, 0, 0)), (782, (.aload_n 1, 783, 0, 0, 0, 0, 0)), (783, (.invokevirtual 119, 786, 101, 1, 8, 0, 0))],
  [(786, (.aload_n 2, 787, 0, 0, 0, 0, 0)), (787, (.invokevirtual 122, 790, 183, 1, 9, 0, 0)), (790, (.if_icmp .eq 360, 793, 1150, 0, 0, 0, 0)), (793, (.iconst 0, 794, 0, 0, 0, 0, 0)), (794, (.ireturn, 795, 0, 0, 0, 0, 0)), (795, (.aload_n 1, 796, 0, 0, 0, 0, 0)), (796, (.aload_n 0, 797, 0, 0, 0, 0, 0)), (797, (.iload_n 3, 798, 0, 0, 0, 0, 0)), (798, (.iconst 1, 799, 0, 0, 0, 1, 0)), (799, (.iadd, 800, 0, 0, 0, 0, 0))],
  [(800, (.iaload, 801, 0, 0, 0, 0, 0)), (801, (.invokevirtual 123, 804, 102, 2, 8, 0, 0)), (804, (.aload_n 2, 805, 0, 0, 0, 0, 0)), (805, (.aload_n 0, 806, 0, 0, 0, 0, 0)), (806, (.iload_n 3, 807, 0, 0, 0, 0, 0)), (807, (.iconst 1, 808, 0, 0, 0, 1, 0)), (808, (.iadd, 809, 0, 0, 0, 0, 0)), (809, (.iaload, 810, 0, 0, 0, 0, 0)), (810, (.invokevirtual 126, 813, 184, 2, 9, 0, 0)), (813, (.if_icmp .eq 337, 816, 1150, 0, 0, 0, 0))],
  [(816, (.iconst 0, 817, 0, 0, 0, 0, 0)), (817, (.ireturn, 818, 0, 0, 0, 0, 0)), (818, (.aload_n 1, 819, 0, 0, 0, 0, 0)), (819, (.aload_n 0, 820, 0, 0, 0, 0, 0)), (820, (.iload_n 3, 821, 0, 0, 0, 0, 0)), (821, (.iconst 1, 822, 0, 0, 0, 1, 0)), (822, (.iadd, 823, 0, 0, 0, 0, 0)), (823, (.iaload, 824, 0, 0, 0, 0, 0)), (824, (.aload_n 0, 825, 0, 0, 0, 0, 0)), (825, (.iload_n 3, 826, 0, 0, 0, 0, 0)), (826, (.iconst 2, 827, 0, 0, 0, 2, 0)), (827, (.iadd, 828, 0, 0, 0, 0, 0)), (828, (.iaload, 829, 0, 0, 0, 0, 0)), (829, (.aload_n 0, 830, 0, 0, 0, 0, 0)), (830, (.iload_n 3, 831, 0, 0, 0, 0, 0)), (831, (.iconst 3, 832, 0, 0, 0, 3, 0))]]
def mt_law_13 : mTab := [[(832, (.iadd, 833, 0, 0, 0, 0, 0)), (833, (.iaload, 834, 0, 0, 0, 0, 0)), (834, (.invokevirtual 127, 837, 103, 4, 8, 0, 0)), (837, (.aload_n 2, 838, 0, 0, 0, 0, 0)), (838, (.aload_n 0, 839, 0, 0, 0, 0, 0)), (839, (.iload_n 3, 840, 0, 0, 0, 0, 0)), (840, (.iconst 1, 841, 0, 0, 0, 1, 0)), (841, (.iadd, 842, 0, 0, 0, 0, 0)), (842, (.iaload, 843, 0, 0, 0, 0, 0)), (843, (.aload_n 0, 844, 0, 0, 0, 0, 0)), (844, (.iload_n 3, 845, 0, 0, 0, 0, 0)), (845, (.iconst 2, 846, 0, 0, 0, 2, 0)), (846, (.iadd, 847, 0, 0, 0, 0, 0)), (847, (.iaload, 848, 0, 0, 0, 0, 0))],
  [(848, (.aload_n 0, 849, 0, 0, 0, 0, 0)), (849, (.iload_n 3, 850, 0, 0, 0, 0, 0)), (850, (.iconst 3, 851, 0, 0, 0, 3, 0)), (851, (.iadd, 852, 0, 0, 0, 0, 0)), (852, (.iaload, 853, 0, 0, 0, 0, 0)), (853, (.invokevirtual 130, 856, 186, 4, 9, 0, 0)), (856, (.if_icmp .eq 294, 859, 1150, 0, 0, 0, 0)), (859, (.iconst 0, 860, 0, 0, 0, 0, 0)), (860, (.ireturn, 861, 0, 0, 0, 0, 0)), (861, (.aload_n 1, 862, 0, 0, 0, 0, 0)), (862, (.aload_n 0, 863, 0, 0, 0, 0, 0)), (863, (.iload_n 3, 864, 0, 0, 0, 0, 0))],
  [(864, (.iconst 1, 865, 0, 0, 0, 1, 0)), (865, (.iadd, 866, 0, 0, 0, 0, 0)), (866, (.iaload, 867, 0, 0, 0, 0, 0)), (867, (.invokevirtual 131, 870, 104, 2, 8, 0, 0)), (870, (.aload_n 2, 871, 0, 0, 0, 0, 0)), (871, (.aload_n 0, 872, 0, 0, 0, 0, 0)), (872, (.iload_n 3, 873, 0, 0, 0, 0, 0)), (873, (.iconst 1, 874, 0, 0, 0, 1, 0)), (874, (.iadd, 875, 0, 0, 0, 0, 0)), (875, (.iaload, 876, 0, 0, 0, 0, 0)), (876, (.invokevirtual 134, 879, 187, 2, 9, 0, 0)), (879, (.if_icmp .eq 271, 882, 1150, 0, 0, 0, 0))],
  [(882, (.iconst 0, 883, 0, 0, 0, 0, 0)), (883, (.ireturn, 884, 0, 0, 0, 0, 0)), (884, (.aload_n 1, 885, 0, 0, 0, 0, 0)), (885, (.aload_n 0, 886, 0, 0, 0, 0, 0)), (886, (.iload_n 3, 887, 0, 0, 0, 0, 0)), (887, (.iconst 1, 888, 0, 0, 0, 1, 0)), (888, (.iadd, 889, 0, 0, 0, 0, 0)), (889, (.iaload, 890, 0, 0, 0, 0, 0)), (890, (.aload_n 0, 891, 0, 0, 0, 0, 0)), (891, (.iload_n 3, 892, 0, 0, 0, 0, 0)), (892, (.iconst 2, 893, 0, 0, 0, 2, 0)), (893, (.iadd, 894, 0, 0, 0, 0, 0)), (894, (.iaload, 895, 0, 0, 0, 0, 0)), (895, (.aload_n 0, 896, 0, 0, 0, 0, 0))]]
def mt_law_14 : mTab := [[(896, (.iload_n 3, 897, 0, 0, 0, 0, 0)), (897, (.iconst 3, 898, 0, 0, 0, 3, 0)), (898, (.iadd, 899, 0, 0, 0, 0, 0)), (899, (.iaload, 900, 0, 0, 0, 0, 0)), (900, (.i2l, 901, 0, 0, 0, 0, 0)), (901, (.bipush 32, 903, 0, 0, 0, 32, 0)), (903, (.lshl, 904, 0, 0, 0, 0, 0)), (904, (.aload_n 0, 905, 0, 0, 0, 0, 0)), (905, (.iload_n 3, 906, 0, 0, 0, 0, 0)), (906, (.iconst 4, 907, 0, 0, 0, 4, 0)), (907, (.iadd, 908, 0, 0, 0, 0, 0)), (908, (.iaload, 909, 0, 0, 0, 0, 0)), (909, (.i2l, 910, 0, 0, 0, 0, 0)), (910, (.ldc2_w 135, 913, 0, 0, 0, 0, 4294967295))],
  [(913, (.land, 914, 0, 0, 0, 0, 0)), (914, (.lor, 915, 0, 0, 0, 0, 0)), (915, (.invokevirtual 137, 918, 105, 4, 8, 0, 0)), (918, (.aload_n 2, 919, 0, 0, 0, 0, 0)), (919, (.aload_n 0, 920, 0, 0, 0, 0, 0)), (920, (.iload_n 3, 921, 0, 0, 0, 0, 0)), (921, (.iconst 1, 922, 0, 0, 0, 1, 0)), (922, (.iadd, 923, 0, 0, 0, 0, 0)), (923, (.iaload, 924, 0, 0, 0, 0, 0)), (924, (.aload_n 0, 925, 0, 0, 0, 0, 0)), (925, (.iload_n 3, 926, 0, 0, 0, 0, 0)), (926, (.iconst 2, 927, 0, 0, 0, 2, 0)), (927, (.iadd, 928, 0, 0, 0, 0, 0))],
  [(928, (.iaload, 929, 0, 0, 0, 0, 0)), (929, (.aload_n 0, 930, 0, 0, 0, 0, 0)), (930, (.iload_n 3, 931, 0, 0, 0, 0, 0)), (931, (.iconst 3, 932, 0, 0, 0, 3, 0)), (932, (.iadd, 933, 0, 0, 0, 0, 0)), (933, (.iaload, 934, 0, 0, 0, 0, 0)), (934, (.i2l, 935, 0, 0, 0, 0, 0)), (935, (.bipush 32, 937, 0, 0, 0, 32, 0)), (937, (.lshl, 938, 0, 0, 0, 0, 0)), (938, (.aload_n 0, 939, 0, 0, 0, 0, 0)), (939, (.iload_n 3, 940, 0, 0, 0, 0, 0)), (940, (.iconst 4, 941, 0, 0, 0, 4, 0)), (941, (.iadd, 942, 0, 0, 0, 0, 0)), (942, (.iaload, 943, 0, 0, 0, 0, 0)), (943, (.i2l, 944, 0, 0, 0, 0, 0))],
  [(944, (.ldc2_w 135, 947, 0, 0, 0, 0, 4294967295)), (947, (.land, 948, 0, 0, 0, 0, 0)), (948, (.lor, 949, 0, 0, 0, 0, 0)), (949, (.invokevirtual 141, 952, 188, 4, 9, 0, 0)), (952, (.if_icmp .eq 198, 955, 1150, 0, 0, 0, 0)), (955, (.iconst 0, 956, 0, 0, 0, 0, 0)), (956, (.ireturn, 957, 0, 0, 0, 0, 0)), (957, (.aload_n 1, 958, 0, 0, 0, 0, 0)), (958, (.aload_n 0, 959, 0, 0, 0, 0, 0)), (959, (.iload_n 3, 960, 0, 0, 0, 0, 0))]]
def mt_law_15 : mTab := [[(960, (.iconst 1, 961, 0, 0, 0, 1, 0)), (961, (.iadd, 962, 0, 0, 0, 0, 0)), (962, (.iaload, 963, 0, 0, 0, 0, 0)), (963, (.aload_n 0, 964, 0, 0, 0, 0, 0)), (964, (.iload_n 3, 965, 0, 0, 0, 0, 0)), (965, (.iconst 2, 966, 0, 0, 0, 2, 0)), (966, (.iadd, 967, 0, 0, 0, 0, 0)), (967, (.iaload, 968, 0, 0, 0, 0, 0)), (968, (.invokevirtual 142, 971, 106, 3, 8, 0, 0)), (971, (.aload_n 2, 972, 0, 0, 0, 0, 0)), (972, (.aload_n 0, 973, 0, 0, 0, 0, 0)), (973, (.iload_n 3, 974, 0, 0, 0, 0, 0)), (974, (.iconst 1, 975, 0, 0, 0, 1, 0)), (975, (.iadd, 976, 0, 0, 0, 0, 0))],
  [(976, (.iaload, 977, 0, 0, 0, 0, 0)), (977, (.aload_n 0, 978, 0, 0, 0, 0, 0)), (978, (.iload_n 3, 979, 0, 0, 0, 0, 0)), (979, (.iconst 2, 980, 0, 0, 0, 2, 0)), (980, (.iadd, 981, 0, 0, 0, 0, 0)), (981, (.iaload, 982, 0, 0, 0, 0, 0)), (982, (.invokevirtual 146, 985, 189, 3, 9, 0, 0)), (985, (.lcmp, 986, 0, 0, 0, 0, 0)), (986, (.ifCond .eq 164, 989, 1150, 0, 0, 0, 0)), (989, (.iconst 0, 990, 0, 0, 0, 0, 0)), (990, (.ireturn, 991, 0, 0, 0, 0, 0)), (991, (.aload_n 1, 992, 0, 0, 0, 0, 0))],
  [(992, (.aload_n 0, 993, 0, 0, 0, 0, 0)), (993, (.iload_n 3, 994, 0, 0, 0, 0, 0)), (994, (.iconst 1, 995, 0, 0, 0, 1, 0)), (995, (.iadd, 996, 0, 0, 0, 0, 0)), (996, (.iaload, 997, 0, 0, 0, 0, 0)), (997, (.aload_n 0, 998, 0, 0, 0, 0, 0)), (998, (.iload_n 3, 999, 0, 0, 0, 0, 0)), (999, (.iconst 2, 1000, 0, 0, 0, 2, 0)), (1000, (.iadd, 1001, 0, 0, 0, 0, 0)), (1001, (.iaload, 1002, 0, 0, 0, 0, 0)), (1002, (.aload_n 0, 1003, 0, 0, 0, 0, 0)), (1003, (.iload_n 3, 1004, 0, 0, 0, 0, 0)), (1004, (.iconst 3, 1005, 0, 0, 0, 3, 0)), (1005, (.iadd, 1006, 0, 0, 0, 0, 0)), (1006, (.iaload, 1007, 0, 0, 0, 0, 0)), (1007, (.aload_n 0, 1008, 0, 0, 0, 0, 0))],
  [(1008, (.iload_n 3, 1009, 0, 0, 0, 0, 0)), (1009, (.iconst 4, 1010, 0, 0, 0, 4, 0)), (1010, (.iadd, 1011, 0, 0, 0, 0, 0)), (1011, (.iaload, 1012, 0, 0, 0, 0, 0)), (1012, (.invokevirtual 147, 1015, 107, 5, 8, 0, 0)), (1015, (.aload_n 2, 1016, 0, 0, 0, 0, 0)), (1016, (.aload_n 0, 1017, 0, 0, 0, 0, 0)), (1017, (.iload_n 3, 1018, 0, 0, 0, 0, 0)), (1018, (.iconst 1, 1019, 0, 0, 0, 1, 0)), (1019, (.iadd, 1020, 0, 0, 0, 0, 0)), (1020, (.iaload, 1021, 0, 0, 0, 0, 0)), (1021, (.aload_n 0, 1022, 0, 0, 0, 0, 0)), (1022, (.iload_n 3, 1023, 0, 0, 0, 0, 0)), (1023, (.iconst 2, 1024, 0, 0, 0, 2, 0))]]
def mt_law_16 : mTab := [[(1024, (.iadd, 1025, 0, 0, 0, 0, 0)), (1025, (.iaload, 1026, 0, 0, 0, 0, 0)), (1026, (.aload_n 0, 1027, 0, 0, 0, 0, 0)), (1027, (.iload_n 3, 1028, 0, 0, 0, 0, 0)), (1028, (.iconst 3, 1029, 0, 0, 0, 3, 0)), (1029, (.iadd, 1030, 0, 0, 0, 0, 0)), (1030, (.iaload, 1031, 0, 0, 0, 0, 0)), (1031, (.aload_n 0, 1032, 0, 0, 0, 0, 0)), (1032, (.iload_n 3, 1033, 0, 0, 0, 0, 0)), (1033, (.iconst 4, 1034, 0, 0, 0, 4, 0)), (1034, (.iadd, 1035, 0, 0, 0, 0, 0)), (1035, (.iaload, 1036, 0, 0, 0, 0, 0)), (1036, (.invokevirtual 151, 1039, 190, 5, 9, 0, 0)), (1039, (.if_icmp .eq 111, 1042, 1150, 0, 0, 0, 0))],
  [(1042, (.iconst 0, 1043, 0, 0, 0, 0, 0)), (1043, (.ireturn, 1044, 0, 0, 0, 0, 0)), (1044, (.aload_n 1, 1045, 0, 0, 0, 0, 0)), (1045, (.aload_n 0, 1046, 0, 0, 0, 0, 0)), (1046, (.iload_n 3, 1047, 0, 0, 0, 0, 0)), (1047, (.iconst 1, 1048, 0, 0, 0, 1, 0)), (1048, (.iadd, 1049, 0, 0, 0, 0, 0)), (1049, (.iaload, 1050, 0, 0, 0, 0, 0)), (1050, (.aload_n 0, 1051, 0, 0, 0, 0, 0)), (1051, (.iload_n 3, 1052, 0, 0, 0, 0, 0)), (1052, (.iconst 2, 1053, 0, 0, 0, 2, 0)), (1053, (.iadd, 1054, 0, 0, 0, 0, 0)), (1054, (.iaload, 1055, 0, 0, 0, 0, 0)), (1055, (.aload_n 0, 1056, 0, 0, 0, 0, 0))],
  [(1056, (.iload_n 3, 1057, 0, 0, 0, 0, 0)), (1057, (.iconst 3, 1058, 0, 0, 0, 3, 0)), (1058, (.iadd, 1059, 0, 0, 0, 0, 0)), (1059, (.iaload, 1060, 0, 0, 0, 0, 0)), (1060, (.aload_n 0, 1061, 0, 0, 0, 0, 0)), (1061, (.iload_n 3, 1062, 0, 0, 0, 0, 0)), (1062, (.iconst 4, 1063, 0, 0, 0, 4, 0)), (1063, (.iadd, 1064, 0, 0, 0, 0, 0)), (1064, (.iaload, 1065, 0, 0, 0, 0, 0)), (1065, (.aload_n 0, 1066, 0, 0, 0, 0, 0)), (1066, (.iload_n 3, 1067, 0, 0, 0, 0, 0)), (1067, (.iconst 5, 1068, 0, 0, 0, 5, 0)), (1068, (.iadd, 1069, 0, 0, 0, 0, 0)), (1069, (.iaload, 1070, 0, 0, 0, 0, 0)), (1070, (.invokevirtual 152, 1073, 108, 6, 8, 0, 0))],
  [(1073, (.aload_n 2, 1074, 0, 0, 0, 0, 0)), (1074, (.aload_n 0, 1075, 0, 0, 0, 0, 0)), (1075, (.iload_n 3, 1076, 0, 0, 0, 0, 0)), (1076, (.iconst 1, 1077, 0, 0, 0, 1, 0)), (1077, (.iadd, 1078, 0, 0, 0, 0, 0)), (1078, (.iaload, 1079, 0, 0, 0, 0, 0)), (1079, (.aload_n 0, 1080, 0, 0, 0, 0, 0)), (1080, (.iload_n 3, 1081, 0, 0, 0, 0, 0)), (1081, (.iconst 2, 1082, 0, 0, 0, 2, 0)), (1082, (.iadd, 1083, 0, 0, 0, 0, 0)), (1083, (.iaload, 1084, 0, 0, 0, 0, 0)), (1084, (.aload_n 0, 1085, 0, 0, 0, 0, 0)), (1085, (.iload_n 3, 1086, 0, 0, 0, 0, 0)), (1086, (.iconst 3, 1087, 0, 0, 0, 3, 0)), (1087, (.iadd, 1088, 0, 0, 0, 0, 0))]]
def mt_law_17 : mTab := [[(1088, (.iaload, 1089, 0, 0, 0, 0, 0)), (1089, (.aload_n 0, 1090, 0, 0, 0, 0, 0)), (1090, (.iload_n 3, 1091, 0, 0, 0, 0, 0)), (1091, (.iconst 4, 1092, 0, 0, 0, 4, 0)), (1092, (.iadd, 1093, 0, 0, 0, 0, 0)), (1093, (.iaload, 1094, 0, 0, 0, 0, 0)), (1094, (.aload_n 0, 1095, 0, 0, 0, 0, 0)), (1095, (.iload_n 3, 1096, 0, 0, 0, 0, 0)), (1096, (.iconst 5, 1097, 0, 0, 0, 5, 0)), (1097, (.iadd, 1098, 0, 0, 0, 0, 0)), (1098, (.iaload, 1099, 0, 0, 0, 0, 0)), (1099, (.invokevirtual 156, 1102, 191, 6, 9, 0, 0)), (1102, (.if_icmp .eq 48, 1105, 1150, 0, 0, 0, 0))],
  [(1105, (.iconst 0, 1106, 0, 0, 0, 0, 0)), (1106, (.ireturn, 1107, 0, 0, 0, 0, 0)), (1107, (.aload_n 1, 1108, 0, 0, 0, 0, 0)), (1108, (.aload_n 0, 1109, 0, 0, 0, 0, 0)), (1109, (.iload_n 3, 1110, 0, 0, 0, 0, 0)), (1110, (.iconst 1, 1111, 0, 0, 0, 1, 0)), (1111, (.iadd, 1112, 0, 0, 0, 0, 0)), (1112, (.iaload, 1113, 0, 0, 0, 0, 0)), (1113, (.aload_n 0, 1114, 0, 0, 0, 0, 0)), (1114, (.iload_n 3, 1115, 0, 0, 0, 0, 0)), (1115, (.iconst 2, 1116, 0, 0, 0, 2, 0)), (1116, (.iadd, 1117, 0, 0, 0, 0, 0)), (1117, (.iaload, 1118, 0, 0, 0, 0, 0)), (1118, (.aload_n 0, 1119, 0, 0, 0, 0, 0)), (1119, (.iload_n 3, 1120, 0, 0, 0, 0, 0))],
  [(1120, (.iconst 3, 1121, 0, 0, 0, 3, 0)), (1121, (.iadd, 1122, 0, 0, 0, 0, 0)), (1122, (.iaload, 1123, 0, 0, 0, 0, 0)), (1123, (.invokevirtual 157, 1126, 109, 4, 8, 0, 0)), (1126, (.aload_n 2, 1127, 0, 0, 0, 0, 0)), (1127, (.aload_n 0, 1128, 0, 0, 0, 0, 0)), (1128, (.iload_n 3, 1129, 0, 0, 0, 0, 0)), (1129, (.iconst 1, 1130, 0, 0, 0, 1, 0)), (1130, (.iadd, 1131, 0, 0, 0, 0, 0)), (1131, (.iaload, 1132, 0, 0, 0, 0, 0)), (1132, (.aload_n 0, 1133, 0, 0, 0, 0, 0)), (1133, (.iload_n 3, 1134, 0, 0, 0, 0, 0)), (1134, (.iconst 2, 1135, 0, 0, 0, 2, 0)), (1135, (.iadd, 1136, 0, 0, 0, 0, 0))],
  [(1136, (.iaload, 1137, 0, 0, 0, 0, 0)), (1137, (.aload_n 0, 1138, 0, 0, 0, 0, 0)), (1138, (.iload_n 3, 1139, 0, 0, 0, 0, 0)), (1139, (.iconst 3, 1140, 0, 0, 0, 3, 0)), (1140, (.iadd, 1141, 0, 0, 0, 0, 0)), (1141, (.iaload, 1142, 0, 0, 0, 0, 0)), (1142, (.invokevirtual 160, 1145, 192, 4, 9, 0, 0)), (1145, (.if_icmp .eq 5, 1148, 1150, 0, 0, 0, 0)), (1148, (.iconst 0, 1149, 0, 0, 0, 0, 0)), (1149, (.ireturn, 1150, 0, 0, 0, 0, 0)), (1150, (.iinc 3 6, 1153, 0, 0, 0, 6, 0))]]
def mt_law_18 : mTab := [[(1153, (.goto (-1135), 1156, 18, 0, 0, 0, 0)), (1156, (.iconst 1, 1157, 0, 0, 0, 1, 0)), (1157, (.ireturn, 1158, 0, 0, 0, 0, 0))]]
def mt_law : mTab := mt_law_0 ++ (mt_law_1 ++ (mt_law_2 ++ (mt_law_3 ++ (mt_law_4 ++ (mt_law_5 ++ (mt_law_6 ++ (mt_law_7 ++ (mt_law_8 ++ (mt_law_9 ++ (mt_law_10 ++ (mt_law_11 ++ (mt_law_12 ++ (mt_law_13 ++ (mt_law_14 ++ (mt_law_15 ++ (mt_law_16 ++ (mt_law_17 ++ (mt_law_18))))))))))))))))))
def md_law : mMd := (yL_law, 10, cL_law, 4, ret, mt_law)
def mdL_0 : List mMd := [md_X0_init, md_X0_setUp, md_X0_addAttacks, md_X0_addMove, md_X0_canClaim, md_X0_hasMove, md_X0_repliesTo, md_X0_answer, md_X0_concede, md_X0_attack]
def mdL_1 : List mMd := [md_X0_bitOf, md_X1_init, md_X1_isOn, md_X1_drop, md_X1_open, md_X1_advance, md_X1_stepBack, md_X2_init, md_X2_atomTable, md_X2_has]
def mdL_2 : List mMd := [md_X2_kindOf, md_X2_firstOf, md_X2_secondOf, md_X2_attacksOn, md_X2_shrinkTo, md_X2_negationOf, md_X2_make, md_X2_find, md_X2_tableOf, md_X3_init]
def mdL_3 : List mMd := [md_X3_add, md_X3_signAt, md_X3_spells, md_X4_init, md_X4_startFromFormula, md_X4_startFromPosition, md_X4_clear, md_X4_explore, md_X4_linkMove, md_X4_addLink]
def mdL_4 : List mMd := [md_X4_numberOf, md_X4_placeOf, md_X4_settleRanks, md_X4_winsWithin, md_X4_areBelow, md_X4_highestStartRank, md_X4_rankOf, md_X5_init, md_X5_isEmpty, md_X5_holdsReals]
def mdL_5 : List mMd := [md_X5_covers, md_X5_fillAnew, md_X5_drop, md_X5_write, md_X5_read, md_X5_divide, md_X5_keepRemainder, md_X5_remainderOf, md_X5_copyTo, md_X6_init]
def mdL_6 : List mMd := [md_X6_faultIn, md_X6_build, md_X6_take, md_X6_joinUpTo, md_X6_join, md_X6_pushOperator, md_X6_pushOperand, md_X6_isAtomSign, md_X6_kindOfOperator, md_X7_init]
def mdL_7 : List mMd := [md_X7_wordIn, md_X7_applies, md_X7_makeBy, md_X7_translate, md_X7_imageOf, md_X8_init, md_X8_reset, md_X8_formulaCount, md_X8_append, md_X8_clearInput]
def mdL_8 : List mMd := [md_X8_parse, md_X8_negate, md_X8_combine, md_X8_kind, md_X8_part, md_X8_size, md_X8_subformulas, md_X8_truthTable, md_X8_isEquivalent, md_X8_transform]
def mdL_9 : List mMd := [md_X8_rank, md_X8_positionCount, md_X8_manners, md_X8_begin, md_X8_claims, md_X8_defences, md_X8_moveCount, md_X8_move, md_X8_play, md_X8_takeBack]
def mdL_10 : List mMd := [md_X8_positionRank, md_X8_bestMove, md_X8_hardestReply, md_X8_allocate, md_X8_release, md_X8_putElement, md_X8_element, md_X8_compute, md_X8_copyElements, md_X8_replay]
def mdL_11 : List mMd := [md_X8_playStored, md_X8_isManner, md_X8_slotAt, md_X8_rankIn, md_X8_presentRank, md_X8_rankAfter, md_X8_longestAfter, md_X9_init, md_X9_isIn, md_X9_isFormula]
def mdL_12 : List mMd := [md_X9_make, md_X9_settled, md_X9_reset, md_X9_formulaCount, md_X9_append, md_X9_clearInput, md_X9_goes, md_X9_made, md_X9_readImplication, md_X9_readDisjunction]
def mdL_13 : List mMd := [md_X9_readConjunction, md_X9_readSimple, md_X9_readAll, md_X9_parse, md_X9_negate, md_X9_combine, md_X9_kind, md_X9_part, md_X9_size, md_X9_subformulas]
def mdL_14 : List mMd := [md_X9_tableOf, md_X9_truthTable, md_X9_isEquivalent, md_X9_letterAt, md_X9_readWord, md_X9_not, md_X9_translate, md_X9_translation, md_X9_transformed, md_X9_transform]
def mdL_15 : List mMd := [md_X9_attacksOn, md_X9_attack, md_X9_mayClaim, md_X9_findMove, md_X9_countMoves, md_X9_isMove, md_X9_countReplies, md_X9_reply, md_X9_placeOf, md_X9_meet]
def mdL_16 : List mMd := [md_X9_stand, md_X9_meetAll, md_X9_rankBy, md_X9_rankAll, md_X9_meetAfter, md_X9_rankOf, md_X9_isManner, md_X9_rank, md_X9_positionCount, md_X9_manners]
def mdL_17 : List mMd := [md_X9_isPlaying, md_X9_now, md_X9_start, md_X9_begin, md_X9_claims, md_X9_defences, md_X9_moveCount, md_X9_move, md_X9_playOne, md_X9_play]
def mdL_18 : List mMd := [md_X9_takeBack, md_X9_rankNow, md_X9_positionRank, md_X9_bestMove, md_X9_hardestReply, md_X9_isSlot, md_X9_allocate, md_X9_release, md_X9_putElement, md_X9_element]
def mdL_19 : List mMd := [md_X9_compute, md_X9_copyElements, md_X9_replay, md_J9_max, md_J9_min, md_J7_fillD, md_J7_fillI, md_J7_fillL, md_J7_copyOf]
def mdL : List mMd := mdL_0 ++ (mdL_1 ++ (mdL_2 ++ (mdL_3 ++ (mdL_4 ++ (mdL_5 ++ (mdL_6 ++ (mdL_7 ++ (mdL_8 ++ (mdL_9 ++ (mdL_10 ++ (mdL_11 ++ (mdL_12 ++ (mdL_13 ++ (mdL_14 ++ (mdL_15 ++ (mdL_16 ++ (mdL_17 ++ (mdL_18 ++ (mdL_19)))))))))))))))))))
def mMd0 : mMd := (Lib.objectInit, 0, ⟨#[]⟩, 0, none, [])
def mD (a : Nat) : mMd := mdL.getD a mMd0
def mFL : List (Nat × Nat × Nat × Nat) := [(0, 13, 0, 1), (0, 17, 0, 2), (0, 20, 0, 0), (0, 24, 0, 5), (0, 28, 0, 6), (0, 31, 0, 3), (0, 35, 2, 6), (0, 76, 0, 7), (0, 79, 0, 8), (0, 82, 0, 4), (1, 11, 1, 1), (1, 15, 1, 2), (1, 23, 1, 0), (1, 27, 1, 4), (1, 31, 1, 5), (1, 34, 1, 3), (1, 41, 0, 4), (1, 44, 0, 5), (1, 48, 0, 6), (1, 55, 0, 7), (1, 58, 0, 8), (1, 80, 0, 3), (2, 11, 2, 0), (2, 15, 2, 1), (2, 18, 2, 2), (2, 21, 2, 3), (2, 24, 2, 4), (2, 27, 2, 5), (2, 35, 2, 6), (3, 9, 3, 0), (3, 13, 3, 1), (4, 9, 4, 2), (4, 13, 4, 3), (4, 16, 4, 4), (4, 20, 4, 5), (4, 23, 4, 6), (4, 26, 4, 7), (4, 29, 4, 0), (4, 38, 4, 1), (4, 46, 0, 5), (4, 50, 0, 6), (4, 63, 0, 7), (4, 66, 0, 8), (4, 73, 4, 10), (4, 77, 4, 9), (4, 86, 0, 4), (4, 89, 4, 8), (4, 92, 4, 11), (4, 100, 0, 3), (5, 9, 5, 0), (5, 13, 5, 1), (5, 17, 5, 2), (5, 21, 5, 3), (5, 25, 5, 4), (6, 11, 6, 1), (6, 17, 6, 2), (6, 20, 6, 0), (6, 24, 3, 1), (6, 41, 2, 6), (6, 44, 6, 3), (6, 47, 6, 4), (6, 50, 6, 5), (7, 11, 7, 1), (7, 17, 7, 0), (8, 12, 8, 0), (8, 21, 8, 1), (8, 30, 8, 2), (8, 37, 8, 3), (8, 44, 8, 4), (8, 51, 8, 5), (8, 57, 8, 6), (8, 62, 2, 6), (8, 77, 3, 1), (8, 108, 2, 3), (8, 112, 2, 5), (8, 118, 2, 4), (8, 145, 4, 10), (8, 155, 1, 0), (8, 159, 0, 3), (8, 167, 0, 5), (8, 171, 0, 6), (8, 179, 0, 1), (8, 182, 0, 2), (8, 191, 1, 3), (8, 236, 5, 3), (8, 247, 5, 4), (8, 254, 0, 4), (8, 264, 0, 7), (8, 267, 0, 8), (9, 9, 9, 0), (9, 15, 9, 1), (9, 19, 9, 2), (9, 22, 9, 3), (9, 25, 9, 5), (9, 28, 9, 11), (9, 31, 9, 12), (9, 34, 9, 13), (9, 38, 9, 14), (9, 41, 9, 20), (9, 44, 9, 21), (9, 47, 9, 22), (9, 50, 9, 27), (9, 53, 9, 28), (9, 56, 9, 29), (9, 59, 9, 30), (9, 62, 9, 31), (9, 65, 9, 32), (9, 69, 9, 33), (9, 72, 9, 34), (9, 79, 9, 4), (9, 83, 9, 24), (9, 86, 9, 6), (9, 89, 9, 9), (9, 92, 9, 7), (9, 95, 9, 8), (9, 98, 9, 10), (9, 173, 9, 15), (9, 177, 9, 17), (9, 180, 9, 16), (9, 186, 9, 18), (9, 189, 9, 19), (9, 205, 9, 23), (9, 244, 9, 25), (9, 247, 9, 26)]
def mFLp : List Nat := [193, 195, 192, 205, 209, 197, 108, 215, 219, 203, 242, 243, 240, 246, 247, 244, 202, 207, 211, 214, 218, 199, 97, 98, 99, 100, 102, 104, 106, 133, 134, 271, 272, 273, 274, 275, 276, 269, 270, 206, 210, 213, 217, 279, 278, 201, 277, 281, 198, 314, 315, 316, 317, 319, 149, 150, 148, 135, 109, 151, 152, 153, 174, 173, 333, 334, 335, 336, 337, 338, 339, 107, 136, 101, 105, 103, 280, 241, 200, 208, 212, 194, 196, 245, 318, 320, 204, 216, 220, 909, 910, 911, 912, 914, 920, 921, 922, 923, 929, 930, 931, 936, 937, 938, 939, 940, 941, 942, 943, 913, 933, 915, 918, 916, 917, 919, 924, 926, 925, 927, 928, 932, 934, 935]
def mML : List (Nat × Nat × Nat) := [(0, 38, 4), (0, 42, 3), (0, 46, 2), (0, 50, 20), (0, 54, 21), (0, 57, 10), (0, 61, 5), (0, 64, 23), (0, 67, 22), (0, 70, 9), (0, 73, 8), (1, 20, 0), (1, 38, 13), (1, 51, 9), (1, 61, 1), (1, 65, 12), (1, 69, 5), (1, 73, 6), (1, 77, 7), (2, 31, 18), (2, 39, 20), (2, 42, 26), (2, 46, 19), (2, 50, 27), (2, 53, 194), (2, 59, 28), (4, 35, 0), (4, 42, 36), (4, 53, 23), (4, 59, 9), (4, 69, 40), (4, 80, 196), (4, 96, 1), (4, 103, 38), (4, 106, 6), (4, 109, 39), (4, 112, 7), (4, 115, 198), (4, 119, 41), (4, 126, 43), (4, 130, 194), (4, 136, 193), (4, 139, 44), (5, 28, 197), (5, 34, 195), (5, 37, 196), (5, 40, 48), (5, 44, 50), (5, 48, 49), (5, 57, 57), (6, 28, 31), (6, 32, 67), (6, 36, 68), (6, 54, 62), (6, 58, 63), (6, 61, 24), (6, 64, 66), (6, 67, 65), (6, 70, 193), (6, 76, 194), (6, 79, 64), (6, 82, 26), (7, 23, 32), (7, 37, 20), (7, 41, 21), (7, 44, 22), (7, 47, 25), (7, 50, 26), (7, 54, 196), (7, 60, 73), (7, 63, 19), (7, 67, 74), (8, 11, 17), (8, 27, 59), (8, 36, 69), (8, 43, 11), (8, 50, 33), (8, 66, 24), (8, 70, 13), (8, 73, 30), (8, 80, 60), (8, 84, 61), (8, 87, 19), (8, 91, 25), (8, 95, 26), (8, 99, 20), (8, 102, 21), (8, 105, 22), (8, 121, 70), (8, 124, 71), (8, 127, 72), (8, 131, 111), (8, 134, 113), (8, 137, 34), (8, 141, 37), (8, 148, 23), (8, 151, 14), (8, 164, 12), (8, 173, 5), (8, 176, 6), (8, 185, 15), (8, 188, 16), (8, 194, 114), (8, 198, 116), (8, 201, 115), (8, 204, 112), (8, 208, 51), (8, 211, 52), (8, 213, 48), (8, 216, 50), (8, 219, 53), (8, 223, 54), (8, 227, 49), (8, 230, 55), (8, 233, 56), (8, 239, 58), (8, 243, 110), (8, 248, 42), (8, 251, 45), (8, 257, 35), (8, 261, 7), (8, 270, 46), (8, 274, 193), (9, 75, 118), (9, 101, 120), (9, 105, 129), (9, 109, 126), (9, 113, 128), (9, 116, 127), (9, 119, 130), (9, 122, 131), (9, 125, 132), (9, 129, 121), (9, 133, 119), (9, 137, 194), (9, 145, 140), (9, 149, 143), (9, 152, 147), (9, 155, 193), (9, 158, 145), (9, 161, 146), (9, 164, 125), (9, 167, 144), (9, 170, 148), (9, 183, 152), (9, 192, 153), (9, 195, 154), (9, 198, 150), (9, 201, 151), (9, 208, 158), (9, 212, 160), (9, 216, 156), (9, 219, 157), (9, 222, 159), (9, 225, 162), (9, 228, 161), (9, 232, 164), (9, 235, 163), (9, 238, 166), (9, 241, 165), (9, 250, 172), (9, 254, 170), (9, 257, 171), (9, 260, 155), (9, 263, 178), (9, 266, 181), (9, 269, 185), (10, 9, 75), (10, 12, 117), (10, 13, 76), (10, 17, 122), (10, 18, 77), (10, 21, 123), (10, 22, 78), (10, 26, 124), (10, 27, 79), (10, 30, 125), (10, 31, 80), (10, 34, 133), (10, 35, 81), (10, 39, 134), (10, 40, 82), (10, 44, 135), (10, 45, 83), (10, 48, 136), (10, 49, 84), (10, 52, 137), (10, 53, 85), (10, 56, 138), (10, 57, 86), (10, 61, 139), (10, 62, 87), (10, 65, 141), (10, 66, 88), (10, 69, 142), (10, 70, 89), (10, 73, 149), (10, 74, 90), (10, 77, 167), (10, 78, 91), (10, 81, 168), (10, 82, 92), (10, 85, 169), (10, 86, 93), (10, 89, 173), (10, 90, 94), (10, 94, 174), (10, 95, 95), (10, 98, 175), (10, 99, 96), (10, 102, 176), (10, 103, 97), (10, 106, 177), (10, 107, 98), (10, 110, 179), (10, 111, 99), (10, 114, 180), (10, 115, 100), (10, 118, 182), (10, 119, 101), (10, 122, 183), (10, 123, 102), (10, 126, 184), (10, 127, 103), (10, 130, 186), (10, 131, 104), (10, 134, 187), (10, 137, 105), (10, 141, 188), (10, 142, 106), (10, 146, 189), (10, 147, 107), (10, 151, 190), (10, 152, 108), (10, 156, 191), (10, 157, 109), (10, 160, 192), (13, 304, 194)]
def mMLp : List Nat := [645, 649, 653, 626, 621, 622, 665, 669, 625, 692, 693, 188, 732, 733, 734, 765, 766, 767, 768, 94, 616, 458, 429, 433, 437, 440, 268, 607, 612, 617, 627, 611, 641, 657, 661, 670, 688, 674, 631, 701, 705, 706, 707, 823, 826, 829, 838, 855, 864, 883, 391, 395, 398, 405, 417, 448, 409, 413, 444, 447, 421, 425, 510, 570, 575, 576, 577, 578, 579, 582, 586, 587, 90, 144, 169, 182, 263, 359, 363, 375, 387, 401, 453, 454, 463, 468, 476, 480, 505, 566, 571, 596, 599, 603, 637, 727, 728, 739, 755, 756, 761, 773, 781, 793, 797, 815, 819, 834, 846, 847, 851, 860, 874, 875, 879, 890, 899, 697, 711, 785, 801, 802, 806, 1027, 1066, 1046, 1058, 1042, 1062, 1050, 1054, 1038, 1070, 1078, 1098, 1108, 1126, 1141, 1145, 1133, 1137, 1121, 1122, 1129, 1193, 1189, 1185, 1161, 1165, 1173, 1181, 1197, 1201, 1169, 1209, 1177, 1157, 1205, 1150, 1153, 1225, 1233, 1245, 1253, 1261, 1273, 1289, 82, 905, 355, 1015, 367, 1019, 371, 1023, 379, 1030, 383, 1034, 449, 1074, 459, 1082, 464, 1086, 472, 1090, 484, 1094, 488, 1099, 493, 1104, 497, 1113, 501, 1117, 592, 1146, 715, 1213, 719, 1217, 723, 1221, 735, 1229, 743, 1237, 747, 1241, 751, 1249, 757, 1257, 769, 1265, 777, 1269, 789, 1277, 807, 1281, 811, 1285, 830, 1292, 842, 1296, 856, 1300, 870, 1304, 886, 1308, 895, 1312, 684]
def mNL : List (Nat × Nat × Nat) := [(8, 20, 29), (8, 61, 47)]
def mNLp : List Nat := [129, 310]
def mCL : List (Nat × Nat × Nat) := [(1, 18, 0), (4, 33, 0), (8, 9, 2), (8, 18, 3), (8, 25, 6), (8, 34, 7), (8, 41, 1), (8, 48, 4), (8, 55, 5), (10, 7, 8), (10, 10, 9)]
def mCLp : List Nat := [186, 267, 88, 127, 142, 167, 180, 261, 307, 80, 903]
def mIL : List (Nat × Nat × Int32) := [(2, 62, 65535), (9, 144, 65535)]
def mILp : List Nat := [443, 1112]
def mLL : List (Nat × Nat × Int64) := [(4, 122, (-7046029254386353131)), (4, 124, (-4417276706812531889)), (5, 53, 9223372036854775807), (5, 55, (-9223372036854775808)), (8, 116, (-9223372036854775808)), (9, 142, (-9223372036854775808)), (10, 135, 4294967295)]
def mLLp : List Nat := [635, 636, 868, 869, 492, 1103, 1316]
/-- the places of each method: its code word; instanceMethod or static; selects (0 where there is none) -/
def mCp : List Nat := [190, 644, 656, 652, 648, 668, 664, 691, 696, 620, 624, 184, 742, 366, 731, 764, 776, 92, 96, 432, 471, 479, 483, 615, 362, 457, 428, 436, 442, 131, 378, 394, 513, 265, 606, 788, 610, 640, 660, 673, 630, 634, 700, 704, 710, 714, 805, 312, 841, 867, 850, 822, 837, 854, 863, 878, 882, 885, 893, 146, 390, 404, 408, 420, 424, 416, 412, 397, 400, 171, 508, 569, 574, 585, 590, 84, 358, 370, 374, 382, 386, 452, 462, 467, 475, 487, 491, 496, 500, 504, 595, 718, 722, 726, 738, 746, 750, 754, 760, 772, 780, 792, 810, 814, 833, 845, 859, 873, 889, 898, 902, 598, 818, 602, 784, 800, 796, 907, 1029, 1081, 1069, 1073, 1018, 1022, 1026, 1033, 1061, 1065, 1045, 1049, 1053, 1057, 1041, 1037, 1077, 1085, 1089, 1093, 1097, 1102, 1111, 1107, 1116, 1128, 1125, 1136, 1140, 1144, 1132, 1120, 1164, 1168, 1196, 1192, 1188, 1256, 1200, 1204, 1176, 1172, 1184, 1180, 1212, 1208, 1160, 1156, 1152, 1149, 1216, 1220, 1236, 1248, 1228, 1224, 1232, 1240, 1244, 1252, 1264, 1260, 1268, 1276, 1272, 1280, 1284, 1291, 1288, 1295, 1299, 1303, 1307, 1311, 1315, 446, 439, 828, 581, 825, 676]
def mIv : List Nat := [0, 1, 2, 3, 4, 5, 6, 7, 8, 9, 11, 12, 13, 14, 15, 16, 17, 19, 20, 21, 22, 23, 24, 25, 26, 27, 29, 30, 31, 32, 33, 34, 35, 36, 37, 38, 39, 40, 41, 42, 43, 44, 45, 46, 47, 48, 49, 50, 51, 52, 53, 54, 55, 56, 58, 59, 60, 61, 62, 63, 64, 65, 66, 69, 70, 71, 72, 73, 74, 75, 76, 77, 78, 79, 80, 81, 82, 83, 84, 85, 86, 87, 88, 89, 90, 91, 92, 93, 94, 95, 96, 97, 98, 99, 100, 101, 102, 103, 104, 105, 106, 107, 108, 109, 110, 112, 113, 114, 115, 116, 117, 119, 120, 121, 122, 123, 124, 125, 126, 127, 128, 129, 130, 131, 132, 133, 134, 135, 136, 137, 138, 139, 140, 141, 142, 144, 145, 146, 147, 148, 149, 150, 151, 152, 153, 154, 155, 156, 157, 158, 159, 160, 161, 162, 163, 164, 165, 167, 168, 169, 170, 171, 172, 173, 174, 175, 176, 177, 178, 179, 180, 181, 182, 183, 184, 186, 187, 188, 189, 190, 191, 192]
def mIvp : List Nat := [189, 642, 655, 651, 647, 666, 662, 689, 695, 618, 183, 740, 364, 729, 762, 774, 91, 430, 469, 477, 481, 613, 360, 455, 426, 435, 130, 376, 392, 511, 264, 604, 786, 609, 638, 659, 672, 629, 633, 698, 703, 709, 712, 803, 311, 839, 865, 848, 820, 835, 852, 861, 876, 880, 891, 145, 388, 402, 407, 419, 423, 415, 411, 170, 506, 567, 572, 584, 589, 83, 356, 368, 372, 380, 384, 450, 460, 465, 473, 485, 489, 494, 498, 502, 593, 716, 720, 724, 736, 744, 748, 752, 758, 770, 778, 790, 808, 812, 831, 843, 857, 871, 887, 896, 901, 817, 601, 783, 799, 795, 906, 1080, 1068, 1072, 1016, 1020, 1024, 1031, 1060, 1064, 1044, 1048, 1052, 1056, 1040, 1035, 1075, 1083, 1087, 1091, 1095, 1100, 1110, 1105, 1114, 1124, 1135, 1139, 1143, 1131, 1118, 1163, 1167, 1195, 1191, 1187, 1255, 1199, 1203, 1175, 1171, 1183, 1179, 1211, 1207, 1159, 1155, 1147, 1214, 1218, 1235, 1247, 1227, 1222, 1230, 1238, 1242, 1250, 1263, 1258, 1266, 1275, 1270, 1278, 1282, 1286, 1293, 1297, 1301, 1305, 1309, 1313]
def mSv : List Nat := [1, 2, 3, 4, 5, 6, 7, 8, 9, 12, 13, 14, 15, 16, 19, 20, 21, 22, 23, 24, 25, 26, 27, 30, 31, 32, 34, 35, 36, 37, 38, 39, 40, 41, 42, 43, 44, 45, 46, 48, 49, 50, 51, 52, 53, 54, 55, 56, 58, 60, 61, 62, 63, 64, 65, 66, 70, 71, 72, 73, 74, 76, 77, 78, 79, 80, 81, 82, 83, 84, 85, 86, 87, 88, 89, 90, 91, 92, 93, 94, 95, 96, 97, 98, 99, 100, 101, 102, 103, 104, 105, 106, 107, 108, 109, 110, 112, 113, 114, 115, 116, 119, 120, 121, 122, 123, 124, 125, 126, 127, 128, 129, 130, 131, 132, 133, 134, 135, 136, 137, 138, 139, 140, 141, 142, 144, 145, 146, 147, 148, 149, 150, 151, 152, 153, 154, 155, 156, 157, 158, 159, 160, 161, 162, 163, 164, 165, 167, 168, 169, 170, 171, 172, 173, 174, 175, 176, 177, 178, 179, 180, 181, 182, 183, 184, 186, 187, 188, 189, 190, 191, 192]
def mSvp : List Nat := [643, 14, 13, 12, 667, 663, 690, 17, 619, 741, 365, 730, 763, 775, 431, 470, 478, 482, 614, 361, 456, 427, 5, 377, 393, 512, 605, 787, 9, 639, 15, 16, 10, 11, 699, 18, 19, 713, 804, 840, 866, 849, 821, 836, 853, 862, 877, 881, 892, 389, 403, 0, 3, 4, 2, 1, 507, 568, 573, 6, 7, 357, 369, 373, 381, 385, 451, 461, 466, 474, 486, 490, 495, 499, 503, 594, 717, 721, 725, 737, 745, 749, 753, 759, 771, 779, 791, 809, 813, 832, 844, 858, 872, 888, 897, 24, 23, 8, 20, 22, 21, 34, 32, 33, 1017, 1021, 1025, 1032, 30, 31, 26, 27, 28, 29, 25, 1036, 1076, 1084, 1088, 1092, 1096, 1101, 35, 1106, 1115, 36, 38, 39, 40, 37, 1119, 43, 44, 51, 50, 49, 59, 52, 53, 46, 45, 48, 47, 55, 54, 42, 41, 1148, 1215, 1219, 57, 58, 56, 1223, 1231, 1239, 1243, 1251, 60, 1259, 1267, 61, 1271, 1279, 1283, 1287, 1294, 1298, 1302, 1306, 1310, 1314]
def mTv : List Nat := [10, 18, 28, 57, 67, 68, 111, 118, 143, 166, 185, 193, 194, 195, 196, 197, 198]
def mTvp : List Nat := [623, 95, 441, 884, 396, 399, 597, 1028, 1127, 1151, 1290, 445, 438, 827, 580, 824, 675]
def mNv : List Nat := [0, 1, 2, 3, 4, 5, 6, 7, 8, 9, 10, 12, 13]
def mNvp : List Nat := [69, 68, 64, 65, 70, 71, 66, 67, 63, 72, 62, 73, 78]
end
section
/-! the small machine: what its states are, and what they say of the heap -/
abbrev mSh : Type := List (Nat × Nat × List (Option Nat))
abbrev mHp : Type := (Nat → Nat → Int32) × (Nat → Nat → Int64) × (Nat → Nat → UInt64)
abbrev mLs : Type := List (Option Value)
abbrev mCf : Type := Nat × mLs × List Value × mSh × mHp
/-- what is fixed for a whole run: class numbers, slots, array classes, the first new address, the heap at the start, the addresses of the texts -/
abbrev mG : Type := (Nat → ClassId) × (Nat → Nat → Nat) × (Nat → ClassId) × Nat × Heap × (Nat → Nat)
abbrev mGD (g : mG) : va_G := (g.1, g.2.1)
abbrev mGc (g : mG) : Nat → ClassId := g.2.2.1
abbrev mGh (g : mG) : Nat := g.2.2.2.1
abbrev mGH (g : mG) : Heap := g.2.2.2.2.1
abbrev mGs (g : mG) : Nat → Nat := g.2.2.2.2.2
/-- where a cell of the small machine lies: a number from 1000000 on names an old cell -/
def mAl (h i : Nat) : Nat := if i < 1000000 then h + i else i - 1000000
def mE (h : Nat) : Value → Value
  | .ref i => .ref (mAl h i)
  | v => v
def mWI (σ : mHp) (i k : Nat) (v : Int32) : mHp := (fun a => if a = i then upd (σ.1 i) k v else σ.1 a, σ.2)
def mWL (σ : mHp) (i k : Nat) (v : Int64) : mHp := (σ.1, fun a => if a = i then vp_updL (σ.2.1 i) k v else σ.2.1 a, σ.2.2)
def mWD (σ : mHp) (i k : Nat) (v : UInt64) : mHp := (σ.1, σ.2.1, fun a => if a = i then vf_upd (σ.2.2 i) k v else σ.2.2 a)
/-- a new cell: all of it is zero -/
def mNew (σ : mHp) (i : Nat) : mHp := (fun a => if a = i then fun _ => 0 else σ.1 a, fun a => if a = i then fun _ => 0 else σ.2.1 a, fun a => if a = i then fun _ => 0 else σ.2.2 a)
def mFv (h : Nat) (σ : mHp) (i : Nat) (r : List (Option Nat)) (ty k : Nat) : Value :=
  if ty = 1 then .long (σ.2.1 i k) else if ty = 2 then va_rf ((r.getD k none).map (mAl h)) else .int (σ.1 i k)
def mFs (h : Nat) (σ : mHp) (i : Nat) (sh : Nat × Nat × List (Option Nat)) : List Value := (List.range sh.2.1).map (fun k => mFv h σ i sh.2.2 (mFt sh.1 k) k)
def mCell (g : mG) (σ : mHp) (i : Nat) (sh : Nat × Nat × List (Option Nat)) : va_E :=
  if sh.1 = 100 then .inl (mGc g 0, sh.2.1, .inl (σ.1 i))
  else if sh.1 = 101 then .inl (mGc g 1, sh.2.1, .inr (.inl (σ.2.1 i)))
  else if sh.1 = 102 then .inl (mGc g 2, sh.2.1, .inr (.inr (.inr (.inl (σ.2.2 i)))))
  else if sh.1 = 103 then .inl (mGc g 3, sh.2.1, .inr (.inr (.inr (.inr (fun j => (sh.2.2.getD j none).map (mAl (mGh g)))))))
  else .inr (sh.1, mFs (mGh g) σ i sh)
def mWl (g : mG) (sp : mSh) (σ : mHp) : va_W := sp.mapIdx (fun i sh => (mGh g + i, mCell g σ i sh))
def mP (g : mG) (sp : mSh) (σ : mHp) (H : Heap) : Prop := va_P (mGD g) vwCl (mWl g sp σ) H
abbrev mA (g : mG) : Nat → Prop := fun q => mGh g ≤ q
def mTys (g : mG) : List (ClassId × FieldType) := [(mGc g 0, .int), (mGc g 1, .long), (mGc g 2, .double), (mGc g 3, .object RX5)]
def mTot (sp : mSh) : Nat := (sp.map (fun e => e.2.1)).sum
/-- the texts of the class: the pool's places, and what they are -/
def mStL : List (Nat × String) := [(21, "negate"), (29, "double"), (31, "commute"), (33, "contrapose"), (35, "translate")]
def mFlC (e : Nat × Nat × Nat × Nat) : Cond := .fieldLink (mCn e.1) e.2.1 (mFd e.2.2.1 e.2.2.2).1 (mFd e.2.2.1 e.2.2.2).2.1 (mFd e.2.2.1 e.2.2.2).2.2.1
def mMlC (e : Nat × Nat × Nat) : Cond := .methodLink (mCn e.1) e.2.1 (mD e.2.2).1
def mNlC (e : Nat × Nat × Nat) : Cond := .methodLinkNest (mCn e.1) e.2.1 (mD e.2.2).1 RX8
def mClC (e : Nat × Nat × Nat) : Cond := .classLink (mCn e.1) e.2.1 (mCn e.2.2)
def mIlC (e : Nat × Nat × Int32) : Cond := .constant (mCn e.1) e.2.1 e.2.2
def mLlC (e : Nat × Nat × Int64) : Cond := .constantLong (mCn e.1) e.2.1 e.2.2
def mCoC (m : mMd) : Cond := .code m.1 m.2.2.1 m.2.2.2.1 m.2.2.2.2.1
def mStr (g : mG) (U : State) : Prop := ∀ (k : Nat) (q : Nat × String), mStL[k]? = some q → vk_R RX7 q.1 q.2 (mGs g k) U
def mK (g : mG) (U : State) : Prop := va_K (mGD g) vwCl (mTys g) U ∧ mStr g U ∧ (∀ e ∈ mNL, va_Nw (mNlC e) U) ∧ va_AO RX5 U
theorem mK.warm {g : mG} {s U : State} (hW : s.WarmedH U.vm) (h : mK g s) : mK g U := ⟨va_K.moved hW.alike h.1, fun k q hq => vk_R.warm hW (h.2.1 k q hq), fun e he => va_Nw.warmM hW (h.2.2.1 e he), va_AO.moved hW.alike h.2.2.2⟩
theorem mK.same {g : mG} {s U : State} (hv : U.vm = s.vm) (h : mK g s) : mK g U := ⟨va_K.moved (by rw [hv]; exact Vm.Alike.refl _) h.1, fun k q hq => vk_R.same hv (h.2.1 k q hq), fun e he => va_Nw.same rfl hv.symm (h.2.2.1 e he), va_AO.moved (by rw [hv]; exact Vm.Alike.refl _) h.2.2.2⟩
theorem mWl_at {g : mG} {sp : mSh} {σ : mHp} {i : Nat} {sh : Nat × Nat × List (Option Nat)} (h : sp[i]? = some sh) : (mWl g sp σ)[i]? = some (mGh g + i, mCell g σ i sh) := by
  simp [mWl, List.getElem?_mapIdx, h]
theorem mWl_len (g : mG) (sp : mSh) (σ : mHp) : (mWl g sp σ).length = sp.length := by simp [mWl]
theorem mWl_of {g : mG} {sp : mSh} {σ : mHp} {i : Nat} {q : Nat × va_E} (h : (mWl g sp σ)[i]? = some q) : ∃ sh, sp[i]? = some sh ∧ q = (mGh g + i, mCell g σ i sh) := by
  simp only [mWl, List.getElem?_mapIdx] at h
  cases hs : sp[i]? with
  | none => simp [hs] at h
  | some sh => simp [hs] at h; exact ⟨sh, rfl, h.symm⟩
theorem mWl_D (g : mG) (sp : mSh) (σ : mHp) : va_D (mA g) (mWl g sp σ) := by
  refine ⟨fun i j p q hi hj hpq => ?_, fun k q hk => ?_⟩
  · obtain ⟨_, _, rfl⟩ := mWl_of hi
    obtain ⟨_, _, rfl⟩ := mWl_of hj
    have : mGh g + i = mGh g + j := hpq
    omega
  · obtain ⟨_, _, rfl⟩ := mWl_of hk
    exact Nat.le_add_right _ _
theorem mP_lt {g : mG} {sp : mSh} {σ : mHp} {H : Heap} (h : mP g sp σ H) {i : Nat} (hi : i < sp.length) : mGh g + i < H.size := by
  have h1 : sp[i]? = some sp[i] := List.getElem?_eq_getElem hi
  exact (h i _ (mWl_at h1)).lt
theorem mP_le {g : mG} {sp : mSh} {σ : mHp} {H : Heap} (h : mP g sp σ H) (h0 : mGh g ≤ H.size) : mGh g + sp.length ≤ H.size := by
  rcases Nat.eq_zero_or_pos sp.length with h1 | h1
  · omega
  · have := mP_lt h (i := sp.length - 1) (by omega)
    omega
/-- a changed cell: the list with one entry set is the list of the changed heap -/
theorem mWl_set {g : mG} {sp sp' : mSh} {σ σ' : mHp} {i : Nat} {e : va_E} {sh : Nat × Nat × List (Option Nat)} (hl : sp'.length = sp.length) (hi : sp'[i]? = some sh) (he : mCell g σ' i sh = e) (hr : ∀ j, j ≠ i → sp'[j]? = sp[j]?) (hc : ∀ j sh, j ≠ i → mCell g σ' j sh = mCell g σ j sh) : (mWl g sp σ).set i (mGh g + i, e) = mWl g sp' σ' := by
  apply List.ext_getElem?
  intro j
  by_cases hj : j = i
  · subst hj
    have hlt : j < sp.length := by rw [← hl]; exact (List.getElem?_eq_some_iff.mp hi).1
    rw [List.getElem?_set_self (by rw [mWl_len]; exact hlt), mWl_at hi, he]
  · rw [List.getElem?_set_ne (fun h => hj h.symm)]
    simp only [mWl, List.getElem?_mapIdx, hr j hj]
    cases sp[j]? with
    | none => rfl
    | some sh => simp [hc j sh hj]
theorem mWl_push {g : mG} {sp : mSh} {σ σ' : mHp} {sh : Nat × Nat × List (Option Nat)} {e : va_E} (he : mCell g σ' sp.length sh = e) (hc : ∀ j sh, j ≠ sp.length → mCell g σ' j sh = mCell g σ j sh) : mWl g sp σ ++ [(mGh g + sp.length, e)] = mWl g (sp ++ [sh]) σ' := by
  apply List.ext_getElem?
  intro j
  rcases Nat.lt_trichotomy j sp.length with h | h | h
  · rw [List.getElem?_append_left (by rw [mWl_len]; exact h)]
    simp only [mWl, List.getElem?_mapIdx, List.getElem?_append_left h]
    cases sp[j]? with
    | none => rfl
    | some sh => simp [hc j sh (by omega)]
  · subst h
    rw [List.getElem?_append_right (by rw [mWl_len]; exact Nat.le_refl _), mWl_len]
    simp [mWl, List.getElem?_mapIdx, he]
  · rw [List.getElem?_eq_none (by simp [mWl_len]; omega), List.getElem?_eq_none (by simp [mWl_len]; omega)]
theorem mCell_WI {g : mG} {σ : mHp} {i k : Nat} {v : Int32} {j : Nat} {sh : Nat × Nat × List (Option Nat)} (h : j ≠ i) : mCell g (mWI σ i k v) j sh = mCell g σ j sh := by
  simp [mCell, mFs, mFv, mWI, h]
theorem mCell_WL {g : mG} {σ : mHp} {i k : Nat} {v : Int64} {j : Nat} {sh : Nat × Nat × List (Option Nat)} (h : j ≠ i) : mCell g (mWL σ i k v) j sh = mCell g σ j sh := by
  simp [mCell, mFs, mFv, mWL, h]
theorem mCell_WD {g : mG} {σ : mHp} {i k : Nat} {v : UInt64} {j : Nat} {sh : Nat × Nat × List (Option Nat)} (h : j ≠ i) : mCell g (mWD σ i k v) j sh = mCell g σ j sh := by
  simp [mCell, mFs, mFv, mWD, h]
theorem mCell_New {g : mG} {σ : mHp} {i : Nat} {j : Nat} {sh : Nat × Nat × List (Option Nat)} (h : j ≠ i) : mCell g (mNew σ i) j sh = mCell g σ j sh := by
  simp [mCell, mFs, mFv, mNew, h]
theorem mFs_at {h : Nat} {σ : mHp} {i k : Nat} {sh : Nat × Nat × List (Option Nat)} (hk : k < sh.2.1) : (mFs h σ i sh)[k]? = some (mFv h σ i sh.2.2 (mFt sh.1 k) k) := by
  simp [mFs, hk]
/-! locals -/
def mLp (h : Nat) : Nat → mLs → List (Nat × Value)
  | _, [] => []
  | i, none :: t => mLp h (i + 1) t
  | i, some v :: t => (i, mE h v) :: mLp h (i + 1) t
theorem mLp_mem {h : Nat} : ∀ {L : mLs} {i : Nat} {q : Nat × Value}, q ∈ mLp h i L ↔ ∃ (k : Nat) (v : Value), q = (i + k, mE h v) ∧ L[k]? = some (some v) := by
  intro L
  induction L with
  | nil => intro i q; simp [mLp]
  | cons a t ih =>
    intro i q
    have e : ∀ k : Nat, i + 1 + k = i + (k + 1) := fun k => by omega
    cases a with
    | none =>
      simp only [mLp, ih]
      constructor
      · rintro ⟨k, v, rfl, hk⟩
        exact ⟨k + 1, v, by rw [e], by simpa using hk⟩
      · rintro ⟨k, v, rfl, hk⟩
        cases k with
        | zero => simp at hk
        | succ k => exact ⟨k, v, by rw [e], by simpa using hk⟩
    | some w =>
      simp only [mLp, List.mem_cons, ih]
      constructor
      · rintro (rfl | ⟨k, v, rfl, hk⟩)
        · exact ⟨0, w, rfl, rfl⟩
        · exact ⟨k + 1, v, by rw [e], by simpa using hk⟩
      · rintro ⟨k, v, rfl, hk⟩
        cases k with
        | zero => simp at hk; subst hk; exact Or.inl rfl
        | succ k => exact Or.inr ⟨k, v, by rw [e], by simpa using hk⟩
def mLoc (h : Nat) (ls : Array Slot) (nL : Nat) (L : mLs) : Prop := L.length = nL ∧ lv_has ls nL (mLp h 0 L)
theorem mLoc.at {h : Nat} {ls : Array Slot} {nL : Nat} {L : mLs} (hl : mLoc h ls nL L) {i : Nat} {v : Value} (hi : L[i]? = some (some v)) : ls[i]? = some (.val (mE h v)) :=
  hl.2.2.2 (i, mE h v) (mLp_mem.mpr ⟨i, v, by simp, hi⟩)
theorem mE_cat (h : Nat) (v : Value) : (mE h v).category = v.category := by cases v <;> rfl
/-- locals read -/
def mGet : mLs → Nat → Option Value
  | [], _ => none
  | a :: _, 0 => a
  | _ :: t, i + 1 => mGet t i
theorem mGet_at : ∀ {L : mLs} {i : Nat} {v : Value}, mGet L i = some v → L[i]? = some (some v) := by
  intro L
  induction L with
  | nil => intro i v h; simp [mGet] at h
  | cons a t ih =>
    intro i v h
    cases i with
    | zero => simp [mGet] at h; simp [h]
    | succ i => simp [mGet] at h; simpa using ih h
/-- locals written: the rest goes on with the list, all of it worked out -/
def mSet {β : Type} : mLs → Nat → Value → (mLs → Option β) → Option β
  | [], _, _, _ => none
  | _ :: t, 0, v, k => k (some v :: t)
  | a :: t, i + 1, v, k => mSet t i v (fun t' => match i, a with
    | 0, some (.long _) => k (none :: t')
    | 0, some (.double _) => k (none :: t')
    | _, a => k (a :: t'))
def mSet2 {β : Type} : mLs → Nat → Value → (mLs → Option β) → Option β
  | [], _, _, _ => none
  | [_], _, _, _ => none
  | _ :: _ :: t, 0, v, k => k (some v :: none :: t)
  | a :: b :: t, i + 1, v, k => mSet2 (b :: t) i v (fun t' => match i, a with
    | 0, some (.long _) => k (none :: t')
    | 0, some (.double _) => k (none :: t')
    | _, a => k (a :: t'))
theorem mSet_spec {β : Type} : ∀ {L : mLs} {i : Nat} {v : Value} {k : mLs → Option β} {b : β}, mSet L i v k = some b → ∃ L', k L' = some b ∧ L'.length = L.length ∧ i < L.length ∧ ∀ (j : Nat) (w : Value), L'[j]? = some (some w) → (j = i ∧ w = v) ∨ (L[j]? = some (some w) ∧ j ≠ i ∧ ¬ (j + 1 = i ∧ w.category = 2)) := by
  intro L
  induction L with
  | nil => intro i v k b h; simp [mSet] at h
  | cons a t ih =>
    intro i v k b h
    cases i with
    | zero =>
      simp only [mSet] at h
      refine ⟨_, h, by simp, by simp, fun j w hj => ?_⟩
      cases j with
      | zero => simp at hj; exact Or.inl ⟨rfl, hj.symm⟩
      | succ j => exact Or.inr ⟨by simpa using hj, by omega, by omega⟩
    | succ i =>
      simp only [mSet] at h
      obtain ⟨t', hk, hlen, hlt, hspec⟩ := ih h
      have key : ∃ a', k (a' :: t') = some b ∧ (∀ w, a' = some w → a = some w ∧ ¬ (0 = i ∧ w.category = 2)) := by
        split at hk
        · exact ⟨none, hk, fun w hw => by cases hw⟩
        · exact ⟨none, hk, fun w hw => by cases hw⟩
        · rename_i x0 h1 h2
          refine ⟨a, hk, fun w hw => ⟨hw, fun hc => ?_⟩⟩
          subst hw
          obtain ⟨hi0, hc⟩ := hc
          cases w with
          | long y => exact h1 y hi0.symm rfl
          | double y => exact h2 y hi0.symm rfl
          | _ => simp [Value.category] at hc
      obtain ⟨a', hk', ha'⟩ := key
      refine ⟨a' :: t', hk', by simp [hlen], by simp; omega, fun j w hj => ?_⟩
      cases j with
      | zero =>
        simp at hj
        obtain ⟨h1, h2⟩ := ha' w hj
        exact Or.inr ⟨by simp [h1], by omega, fun hc => h2 ⟨by omega, hc.2⟩⟩
      | succ j =>
        rcases hspec j w (by simpa using hj) with h1 | h1
        · exact Or.inl ⟨by omega, h1.2⟩
        · exact Or.inr ⟨by simpa using h1.1, by omega, fun hc => h1.2.2 ⟨by omega, hc.2⟩⟩
theorem mSet2_spec {β : Type} : ∀ {L : mLs} {i : Nat} {v : Value} {k : mLs → Option β} {b : β}, mSet2 L i v k = some b → ∃ L', k L' = some b ∧ L'.length = L.length ∧ i + 1 < L.length ∧ ∀ (j : Nat) (w : Value), L'[j]? = some (some w) → (j = i ∧ w = v) ∨ (L[j]? = some (some w) ∧ j ≠ i ∧ j ≠ i + 1 ∧ ¬ (j + 1 = i ∧ w.category = 2)) := by
  intro L
  induction L with
  | nil => intro i v k b h; simp [mSet2] at h
  | cons a t ih =>
    intro i v k b h
    cases t with
    | nil => cases i <;> simp [mSet2] at h
    | cons b0 t =>
    cases i with
    | zero =>
      simp only [mSet2] at h
      refine ⟨_, h, by simp, by simp, fun j w hj => ?_⟩
      match j, hj with
      | 0, hj => simp at hj; exact Or.inl ⟨rfl, hj.symm⟩
      | 1, hj => simp at hj
      | j + 2, hj => exact Or.inr ⟨by simpa using hj, by omega, by omega, by omega⟩
    | succ i =>
      simp only [mSet2] at h
      obtain ⟨t', hk, hlen, hlt, hspec⟩ := ih h
      have key : ∃ a', k (a' :: t') = some b ∧ (∀ w, a' = some w → a = some w ∧ ¬ (0 = i ∧ w.category = 2)) := by
        split at hk
        · exact ⟨none, hk, fun w hw => by cases hw⟩
        · exact ⟨none, hk, fun w hw => by cases hw⟩
        · rename_i x0 h1 h2
          refine ⟨a, hk, fun w hw => ⟨hw, fun hc => ?_⟩⟩
          subst hw
          obtain ⟨hi0, hc⟩ := hc
          cases w with
          | long y => exact h1 y hi0.symm rfl
          | double y => exact h2 y hi0.symm rfl
          | _ => simp [Value.category] at hc
      obtain ⟨a', hk', ha'⟩ := key
      refine ⟨a' :: t', hk', by simp [hlen], by simp at hlt ⊢; omega, fun j w hj => ?_⟩
      cases j with
      | zero =>
        simp at hj
        obtain ⟨h1, h2⟩ := ha' w hj
        exact Or.inr ⟨by simp [h1], by omega, by omega, fun hc => h2 ⟨by omega, hc.2⟩⟩
      | succ j =>
        rcases hspec j w (by simpa using hj) with h1 | h1
        · exact Or.inl ⟨by omega, h1.2⟩
        · exact Or.inr ⟨by simpa using h1.1, by omega, by omega, fun hc => h1.2.2.2 ⟨by omega, hc.2⟩⟩
theorem mLoc.set1 {h : Nat} {ls ls' : Array Slot} {nL : Nat} {L L' : mLs} {i : Nat} {v : Value} (hlen : L'.length = nL) (hv : lv_has ls' nL ((i, mE h v) :: (mLp h 0 L).filter (fun q => !(q.1 == i) && !(q.1 + 1 == i && q.2.category == 2)))) (hs : ∀ (j : Nat) (w : Value), L'[j]? = some (some w) → (j = i ∧ w = v) ∨ (L[j]? = some (some w) ∧ j ≠ i ∧ ¬ (j + 1 = i ∧ w.category = 2))) : mLoc h ls' nL L' := by
  refine ⟨hlen, hv.1, hv.2.1, fun q hq => hv.2.2 q ?_⟩
  obtain ⟨k, w, rfl, hk⟩ := mLp_mem.mp hq
  rcases hs k w hk with ⟨h1, h2⟩ | ⟨h1, h2, h3⟩
  · subst h1; subst h2; simp
  · refine List.mem_cons_of_mem _ (List.mem_filter.mpr ⟨mLp_mem.mpr ⟨k, w, rfl, h1⟩, ?_⟩)
    simp only [Nat.zero_add, mE_cat]
    simp [h2]
    omega
theorem mLoc.set2 {h : Nat} {ls ls' : Array Slot} {nL : Nat} {L L' : mLs} {i : Nat} {v : Value} (hlen : L'.length = nL) (hv : lv_has ls' nL ((i, mE h v) :: (mLp h 0 L).filter (fun q => !(q.1 == i) && (!(q.1 == i + 1) && !(q.1 + 1 == i && q.2.category == 2))))) (hs : ∀ (j : Nat) (w : Value), L'[j]? = some (some w) → (j = i ∧ w = v) ∨ (L[j]? = some (some w) ∧ j ≠ i ∧ j ≠ i + 1 ∧ ¬ (j + 1 = i ∧ w.category = 2))) : mLoc h ls' nL L' := by
  refine ⟨hlen, hv.1, hv.2.1, fun q hq => hv.2.2 q ?_⟩
  obtain ⟨k, w, rfl, hk⟩ := mLp_mem.mp hq
  rcases hs k w hk with ⟨h1, h2⟩ | ⟨h1, h2, h4, h3⟩
  · subst h1; subst h2; simp
  · refine List.mem_cons_of_mem _ (List.mem_filter.mpr ⟨mLp_mem.mpr ⟨k, w, rfl, h1⟩, ?_⟩)
    simp only [Nat.zero_add, mE_cat]
    simp [h2, h4]
    omega
/-- fewer locals are known -/
theorem mLoc.weak {h : Nat} {ls : Array Slot} {nL : Nat} {L L' : mLs} (hl : mLoc h ls nL L) (hlen : L'.length = L.length) (hs : ∀ (j : Nat) (w : Value), L'[j]? = some (some w) → L[j]? = some (some w)) : mLoc h ls nL L' := by
  refine ⟨hlen.trans hl.1, hl.2.1, hl.2.2.1, fun q hq => hl.2.2.2 q ?_⟩
  obtain ⟨k, w, rfl, hk⟩ := mLp_mem.mp hq
  exact mLp_mem.mpr ⟨k, w, rfl, hs k w hk⟩
end
section
/-! the words that the small machine's rows stand on -/
theorem mIn_of {α : Type} (l : List α) (f : α → Cond) (ps : List Nat) (hp : l.map f = ps.filterMap (fun i => lw_tbl[i]?)) (hg : (l.map f).all goodWord = true) : ∀ e ∈ l, f e ∈ mTB := by
  intro e he
  have h1 : f e ∈ l.map f := List.mem_map_of_mem he
  have h2 := List.all_eq_true.mp hg _ h1
  rw [hp] at h1
  obtain ⟨i, -, hi⟩ := List.mem_filterMap.mp h1
  exact List.mem_filter.mpr ⟨List.mem_of_getElem? hi, h2⟩
theorem mTB_good : GoodIn mTB mTB := fun w hw => ⟨hw, good_of_word (List.mem_filter.mp hw).2⟩
set_option maxRecDepth 100000 in
theorem mFL_in : ∀ e ∈ mFL, mFlC e ∈ mTB := mIn_of mFL mFlC mFLp rfl (by decide +kernel)
set_option maxRecDepth 100000 in
theorem mML_in : ∀ e ∈ mML, mMlC e ∈ mTB := mIn_of mML mMlC mMLp rfl (by decide +kernel)
set_option maxRecDepth 100000 in
theorem mCL_in : ∀ e ∈ mCL, mClC e ∈ mTB := mIn_of mCL mClC mCLp rfl (by decide +kernel)
set_option maxRecDepth 100000 in
theorem mIL_in : ∀ e ∈ mIL, mIlC e ∈ mTB := mIn_of mIL mIlC mILp rfl (by decide +kernel)
set_option maxRecDepth 100000 in
theorem mLL_in : ∀ e ∈ mLL, mLlC e ∈ mTB := mIn_of mLL mLlC mLLp rfl (by decide +kernel)
set_option maxRecDepth 100000 in
theorem mCo_in : ∀ m ∈ mdL, mCoC m ∈ mTB := mIn_of mdL mCoC mCp rfl (by decide +kernel)
set_option maxRecDepth 100000 in
theorem mIv_in : ∀ a ∈ mIv, Cond.instanceMethod (mD a).1 ∈ mTB := mIn_of mIv (fun a => .instanceMethod (mD a).1) mIvp rfl (by decide +kernel)
set_option maxRecDepth 100000 in
theorem mSv_in : ∀ a ∈ mSv, Cond.selects (mCn (mD a).2.1) (mD a).1 (mD a).1 ∈ mTB := mIn_of mSv (fun a => .selects (mCn (mD a).2.1) (mD a).1 (mD a).1) mSvp rfl (by decide +kernel)
set_option maxRecDepth 100000 in
theorem mTv_in : ∀ a ∈ mTv, Cond.static (mD a).1 ∈ mTB := mIn_of mTv (fun a => .static (mD a).1) mTvp rfl (by decide +kernel)
set_option maxRecDepth 100000 in
theorem mNv_in : ∀ o ∈ mNv, Cond.initialized (mCn o) ∈ mTB := mIn_of mNv (fun o => .initialized (mCn o)) mNvp rfl (by decide +kernel)
set_option maxRecDepth 100000 in
theorem mAr_in : ∀ t ∈ ([.int, .long, .double] : List FieldType), Cond.arrayClass t ∈ mTB := mIn_of _ (fun t => .arrayClass t) [125, 126, 332] rfl (by decide +kernel)
/-- an object's class can be made: of ten classes -/
def mInL : List (String × Nat) := vwCl.map (fun q => (q.1, q.2.2))
set_option maxRecDepth 100000 in
theorem mIn_in : ∀ q ∈ mInL, Cond.instantiable q.1 q.2 ∈ lw_tbl ∧ goodWord (Cond.instantiable q.1 q.2) = true := by decide +kernel
theorem mIn_tb : ∀ q ∈ mInL, Cond.instantiable q.1 q.2 ∈ mTB := fun q hq => List.mem_filter.mpr (mIn_in q hq)
set_option maxRecDepth 100000 in
theorem mLay_in : ∀ q ∈ vwCl, ∀ w ∈ u_ws q.1 q.2.1 q.2.2, w ∈ lw_tbl ∧ goodWord w = true := by decide +kernel
theorem mLay_tb : ∀ q ∈ vwCl, ∀ w ∈ u_ws q.1 q.2.1 q.2.2, w ∈ mTB := fun q hq w hw => List.mem_filter.mpr (mLay_in q hq w hw)
set_option maxRecDepth 100000 in
theorem mObj_in : (Cond.instanceMethod Lib.objectInit ∈ mTB ∧ Cond.code Lib.objectInit ⟨#[0xb1]⟩ 1 none ∈ mTB) := by
  refine ⟨List.mem_filter.mpr (by decide +kernel), List.mem_filter.mpr (by decide +kernel)⟩
/-- the types of the fields of the ten classes -/
def mTy (c : Nat) : Nat → FieldType := match c with
  | 0 => tyX0
  | 1 => tyX1
  | 2 => tyX2
  | 3 => tyX3
  | 4 => tyX4
  | 5 => tyX5
  | 6 => tyX6
  | 7 => tyX7
  | 8 => tyX8
  | _ => tyX9
theorem mTy_ok {ci : Nat} {q : vw_C} (h : vwCl[ci]? = some q) : ∀ k, k < q.2.2 → parseFieldDescriptor (q.2.1 k).2.2.1 = some (mTy ci k) := by
  match ci, h with
  | 0, h => cases h; exact tyX0_ok
  | 1, h => cases h; exact tyX1_ok
  | 2, h => cases h; exact tyX2_ok
  | 3, h => cases h; exact tyX3_ok
  | 4, h => cases h; exact tyX4_ok
  | 5, h => cases h; exact tyX5_ok
  | 6, h => cases h; exact tyX6_ok
  | 7, h => cases h; exact tyX7_ok
  | 8, h => cases h; exact tyX8_ok
  | 9, h => cases h; exact tyX9_ok
  | n + 10, h => simp [vwCl] at h
theorem mNm_ok {ci : Nat} {q : vw_C} (h : vwCl[ci]? = some q) : ∀ a, a < q.2.2 → ∀ b, b < q.2.2 → a ≠ b → (q.2.1 a).2.1 ≠ (q.2.1 b).2.1 := by
  match ci, h with
  | 0, h => cases h; exact nmX0
  | 1, h => cases h; exact nmX1
  | 2, h => cases h; exact nmX2
  | 3, h => cases h; exact nmX3
  | 4, h => cases h; exact nmX4
  | 5, h => cases h; exact nmX5
  | 6, h => cases h; exact nmX6
  | 7, h => cases h; exact nmX7
  | 8, h => cases h; exact nmX8
  | 9, h => cases h; exact nmX9
  | n + 10, h => simp [vwCl] at h
/-- what the number of a field's type says of it -/
def mTyC (t : FieldType) : Nat := match t with
  | .int => 0
  | .long => 1
  | .object _ => 2
  | .array _ => 2
  | .boolean => 3
  | _ => 9
set_option maxRecDepth 100000 in
theorem mTyC_ok : ∀ ci, ci < 10 → ∀ k, k < ((vwCl[ci]?).getD ("", fun _ => ("", "", "", false), 0)).2.2 → mTyC (mTy ci k) = mFt ci k := by decide +kernel
end
section
/-! rows of code: what is checked of them once, and how one is found -/
def mLk : List (Nat × mRow) → Nat → Option mRow
  | [], _ => none
  | (q, r) :: t, pc => bif Nat.beq q pc then some r else mLk t pc
def mCh : mTab → Nat → List (Nat × mRow)
  | [], _ => []
  | l :: _, 0 => l
  | _ :: t, i + 1 => mCh t i
def mIn (t : mTab) (pc : Nat) : Option mRow := mLk (mCh t (pc / 16)) pc
def mLen (i : Jvm.ClassFile.Instr) : Nat := match i with
  | .bipush _ | .ldc _ | .iload _ | .lload _ | .fload _ | .dload _ | .aload _ | .istore _ | .lstore _ | .fstore _ | .dstore _ | .astore _ | .newarray _ => 2
  | .sipush _ | .ldc2_w _ | .iinc _ _ | .getfield _ | .putfield _ | .goto _ | .if_icmp _ _ | .ifCond _ _ | .ifnull _ | .ifnonnull _ | .invokevirtual _ | .invokespecial _ | .invokestatic _ | .new _ | .anewarray _ | .checkcast _ => 3
  | _ => 1
def mBr (pc : Nat) (off : Int) (a : Nat) : Bool := decide ((pc : Int) + off = (a : Int))
def mNf (ci : Nat) : Nat := ((vwCl[ci]?).getD ("", fun _ => ("", "", "", false), 0)).2.2
/-- how many parameters a method's descriptor has -/
def mPn (a : Nat) : Option Nat := (parseMethodDescriptor (mD a).1.desc).map (fun d => d.parameters.length)
/-- a table of jumps: keys and targets -/
def mSwL (pc : Nat) : Int → List Int → List (Int32 × Nat)
  | _, [] => []
  | lo, o :: t => (Int32.ofInt lo, ((pc : Int) + o).toNat) :: mSwL pc (lo + 1) t
def mSwC (pc : Nat) : Int → List Int → Bool
  | _, [] => true
  | lo, o :: t => decide ((Int32.ofInt lo).toInt = lo ∧ 0 ≤ (pc : Int) + o) && mSwC pc (lo + 1) t
def mSwM (pc : Nat) : List (Int × Int) → List (Int32 × Nat)
  | [] => []
  | q :: t => (Int32.ofInt q.1, ((pc : Int) + q.2).toNat) :: mSwM pc t
def mSwD (pc : Nat) : List (Int × Int) → Bool
  | [] => true
  | q :: t => decide ((Int32.ofInt q.1).toInt = q.1 ∧ 0 ≤ (pc : Int) + q.2) && mSwD pc t
def mRx (o : Nat) (ini : Bool) (pc : Nat) (r : mRow) : Bool := match r with
  | (ins, np, a, b, c, v, w) => match ins with
    | .iconst n => decide (np = pc + 1 ∧ Int32.ofInt n = v)
    | .bipush n => decide (np = pc + 2 ∧ (Int8.ofInt n).toInt32 = v)
    | .sipush n => decide (np = pc + 3 ∧ (Int16.ofInt n).toInt32 = v)
    | .ldc i => decide (np = pc + 2) && (if a = 0 then decide ((o, i, v) ∈ mIL) else decide (o = 7 ∧ (mStL[b]?).map (fun q => q.1) = some i))
    | .ldc2_w i => decide (np = pc + 3 ∧ (o, i, w) ∈ mLL)
    | .goto f => mBr pc f a
    | .if_icmp _ f => decide (np = pc + 3) && mBr pc f a
    | .ifCond _ f => decide (np = pc + 3) && mBr pc f a
    | .ifnull f => decide (np = pc + 3) && mBr pc f a
    | .ifnonnull f => decide (np = pc + 3) && mBr pc f a
    | .iinc _ n => decide (np = pc + 3 ∧ Int32.ofInt n = v)
    | .tableswitch d lo hi offs => decide ((offs.size : Int) = hi - lo + 1 ∧ 0 ≤ (pc : Int) + d) && mSwC pc lo offs.toList
    | .lookupswitch d ps => decide (0 ≤ (pc : Int) + d) && mSwD pc ps.toList && (ps.toList.zip (ps.toList.drop 1)).all (fun (a, next) => a.1 < next.1)
    | .getfield i => decide (np = pc + 3 ∧ (o, i, a, b) ∈ mFL ∧ b < mNf a ∧ a < 10 ∧ c = mFt a b)
    | .putfield i => decide (np = pc + 3 ∧ (o, i, a, b) ∈ mFL ∧ b < mNf a ∧ a < 10) && (if c < 10 then decide (c = mFt a b ∧ (mFd a b).2.2.2 = false) else decide (c = mFt a b + 10 ∧ (mFd a b).2.2.2 = true ∧ ini = true ∧ (mFd a b).1 = mCn o))
    | .invokevirtual i => decide (np = pc + 3) && (if a < 1000 then decide ((o, i, a) ∈ mML ∧ a ∈ mIv ∧ a ∈ mSv ∧ (mD a).2.1 ∈ mNv ∧ (mD a).2.1 = c ∧ a < mdL.length ∧ mPn a = some (b - 1) ∧ 0 < b ∧ (mD a).2.2.2.1 ≤ 22) else true)
    | .invokestatic i => decide (np = pc + 3) && (if a < 1000 then decide ((o, i, a) ∈ mML ∧ a ∈ mTv ∧ (mD a).2.1 ∈ mNv ∧ a < mdL.length ∧ mPn a = some b ∧ (mD a).2.2.2.1 ≤ 22) else true)
    | .invokespecial i => decide (np = pc + 3) && (if a < 1000 then (if c = 0 then decide ((o, i, a) ∈ mML) else decide ((o, i, a) ∈ mNL)) && decide (a ∈ mIv ∧ (mD a).2.1 ∈ mNv ∧ a < mdL.length ∧ mPn a = some (b - 1) ∧ 0 < b ∧ (mD a).2.2.2.1 ≤ 22 ∧ (mD a).1.name = "<init>" ∧ (mD a).2.2.2.2.1 = none) else true)
    | .new i => decide (np = pc + 3 ∧ (o, i, a) ∈ mCL ∧ a < 10 ∧ b = mNf a ∧ a ∈ mNv)
    | .newarray t => decide (np = pc + 2) && (match t, a with
      | .int, 100 => true
      | .long, 101 => true
      | .double, 102 => true
      | _, _ => false)
    | .anewarray i => decide (np = pc + 3 ∧ (o, i, 5) ∈ mCL)
    | i => decide (np = pc + mLen i)
def mRowOk (o : Nat) (bs : ByteArray) (ini : Bool) (e : Nat × mRow) : Bool := decide (decode bs e.1 = .ok (e.2.1, e.2.2.1 - e.1) ∧ e.1 < e.2.2.1) && mRx o ini e.1 e.2
def mMdOk (m : mMd) : Bool := m.2.2.2.2.2.all (fun ch => ch.all (mRowOk m.2.1 m.2.2.1 (m.1.name == "<init>"))) && decide (m.1.cls = mCn m.2.1) && plainFor m.1 && decide (m.1.cls ≠ "java/lang/invoke/MethodHandle" ∧ m.1.cls ≠ "java/lang/invoke/VarHandle")
theorem mLk_mem : ∀ {l : List (Nat × mRow)} {pc : Nat} {r : mRow}, mLk l pc = some r → (pc, r) ∈ l := by
  intro l
  induction l with
  | nil => intro pc r h; simp [mLk] at h
  | cons a t ih =>
    intro pc r h
    obtain ⟨q, x⟩ := a
    simp only [mLk] at h
    cases hb : Nat.beq q pc with
    | true =>
      rw [hb] at h
      have : q = pc := Nat.eq_of_beq_eq_true hb
      simp at h
      subst this; subst h
      exact List.mem_cons_self
    | false => rw [hb] at h; exact List.mem_cons_of_mem _ (ih h)
theorem mCh_mem : ∀ {t : mTab} {i : Nat} {e : Nat × mRow}, e ∈ mCh t i → ∃ ch ∈ t, e ∈ ch := by
  intro t
  induction t with
  | nil => intro i e h; cases i <;> simp [mCh] at h
  | cons a t ih =>
    intro i e h
    cases i with
    | zero => exact ⟨a, List.mem_cons_self, h⟩
    | succ i => obtain ⟨ch, h1, h2⟩ := ih h; exact ⟨ch, List.mem_cons_of_mem _ h1, h2⟩
theorem mRow_ok {m : mMd} (hm : mMdOk m = true) {pc : Nat} {r : mRow} (h : mIn m.2.2.2.2.2 pc = some r) : decode m.2.2.1 pc = .ok (r.1, r.2.1 - pc) ∧ pc < r.2.1 ∧ mRx m.2.1 (m.1.name == "<init>") pc r = true := by
  obtain ⟨ch, h1, h2⟩ := mCh_mem (mLk_mem h)
  simp only [mMdOk, Bool.and_eq_true] at hm
  have h3 := List.all_eq_true.mp (List.all_eq_true.mp hm.1.1.1 ch h1) _ h2
  simp only [mRowOk, Bool.and_eq_true, decide_eq_true_eq] at h3
  exact ⟨h3.1.1, h3.1.2, h3.2⟩
end
section
set_option maxRecDepth 100000 in
theorem mOk_0 : mdL_0.all mMdOk = true := by decide +kernel
set_option maxRecDepth 100000 in
theorem mOk_1 : mdL_1.all mMdOk = true := by decide +kernel
set_option maxRecDepth 100000 in
theorem mOk_2 : mdL_2.all mMdOk = true := by decide +kernel
set_option maxRecDepth 100000 in
theorem mOk_3 : mdL_3.all mMdOk = true := by decide +kernel
end
section
set_option maxRecDepth 100000 in
theorem mOk_4 : mdL_4.all mMdOk = true := by decide +kernel
set_option maxRecDepth 100000 in
theorem mOk_5 : mdL_5.all mMdOk = true := by decide +kernel
set_option maxRecDepth 100000 in
theorem mOk_6 : mdL_6.all mMdOk = true := by decide +kernel
set_option maxRecDepth 100000 in
theorem mOk_7 : mdL_7.all mMdOk = true := by decide +kernel
end
section
set_option maxRecDepth 100000 in
theorem mOk_8 : mdL_8.all mMdOk = true := by decide +kernel
set_option maxRecDepth 100000 in
theorem mOk_9 : mdL_9.all mMdOk = true := by decide +kernel
set_option maxRecDepth 100000 in
theorem mOk_10 : mdL_10.all mMdOk = true := by decide +kernel
set_option maxRecDepth 100000 in
theorem mOk_11 : mdL_11.all mMdOk = true := by decide +kernel
end
section
set_option maxRecDepth 100000 in
theorem mOk_12 : mdL_12.all mMdOk = true := by decide +kernel
set_option maxRecDepth 100000 in
theorem mOk_13 : mdL_13.all mMdOk = true := by decide +kernel
set_option maxRecDepth 100000 in
theorem mOk_14 : mdL_14.all mMdOk = true := by decide +kernel
set_option maxRecDepth 100000 in
theorem mOk_15 : mdL_15.all mMdOk = true := by decide +kernel
end
section
set_option maxRecDepth 100000 in
theorem mOk_16 : mdL_16.all mMdOk = true := by decide +kernel
set_option maxRecDepth 100000 in
theorem mOk_17 : mdL_17.all mMdOk = true := by decide +kernel
set_option maxRecDepth 100000 in
theorem mOk_18 : mdL_18.all mMdOk = true := by decide +kernel
set_option maxRecDepth 100000 in
theorem mOk_19 : mdL_19.all mMdOk = true := by decide +kernel
theorem mOk_all : ∀ m ∈ mdL, mMdOk m = true := by
  intro m hm
  simp only [mdL, List.mem_append] at hm
  rcases hm with h | h | h | h | h | h | h | h | h | h | h | h | h | h | h | h | h | h | h | h
  · exact List.all_eq_true.mp mOk_0 m h
  · exact List.all_eq_true.mp mOk_1 m h
  · exact List.all_eq_true.mp mOk_2 m h
  · exact List.all_eq_true.mp mOk_3 m h
  · exact List.all_eq_true.mp mOk_4 m h
  · exact List.all_eq_true.mp mOk_5 m h
  · exact List.all_eq_true.mp mOk_6 m h
  · exact List.all_eq_true.mp mOk_7 m h
  · exact List.all_eq_true.mp mOk_8 m h
  · exact List.all_eq_true.mp mOk_9 m h
  · exact List.all_eq_true.mp mOk_10 m h
  · exact List.all_eq_true.mp mOk_11 m h
  · exact List.all_eq_true.mp mOk_12 m h
  · exact List.all_eq_true.mp mOk_13 m h
  · exact List.all_eq_true.mp mOk_14 m h
  · exact List.all_eq_true.mp mOk_15 m h
  · exact List.all_eq_true.mp mOk_16 m h
  · exact List.all_eq_true.mp mOk_17 m h
  · exact List.all_eq_true.mp mOk_18 m h
  · exact List.all_eq_true.mp mOk_19 m h
theorem mD_mem {a : Nat} (h : a < mdL.length) : mD a ∈ mdL := by
  unfold mD
  rw [List.getD_eq_getElem?_getD, List.getElem?_eq_getElem h]
  exact List.getElem_mem h
end
section
set_option maxRecDepth 100000 in
theorem mOkl_0 : mt_law_0.all (fun ch => ch.all (mRowOk 10 cL_law false)) = true := by decide +kernel
set_option maxRecDepth 100000 in
theorem mOkl_1 : mt_law_1.all (fun ch => ch.all (mRowOk 10 cL_law false)) = true := by decide +kernel
set_option maxRecDepth 100000 in
theorem mOkl_2 : mt_law_2.all (fun ch => ch.all (mRowOk 10 cL_law false)) = true := by decide +kernel
set_option maxRecDepth 100000 in
theorem mOkl_3 : mt_law_3.all (fun ch => ch.all (mRowOk 10 cL_law false)) = true := by decide +kernel
set_option maxRecDepth 100000 in
theorem mOkl_4 : mt_law_4.all (fun ch => ch.all (mRowOk 10 cL_law false)) = true := by decide +kernel
set_option maxRecDepth 100000 in
theorem mOkl_5 : mt_law_5.all (fun ch => ch.all (mRowOk 10 cL_law false)) = true := by decide +kernel
set_option maxRecDepth 100000 in
theorem mOkl_6 : mt_law_6.all (fun ch => ch.all (mRowOk 10 cL_law false)) = true := by decide +kernel
set_option maxRecDepth 100000 in
theorem mOkl_7 : mt_law_7.all (fun ch => ch.all (mRowOk 10 cL_law false)) = true := by decide +kernel
set_option maxRecDepth 100000 in
theorem mOkl_8 : mt_law_8.all (fun ch => ch.all (mRowOk 10 cL_law false)) = true := by decide +kernel
set_option maxRecDepth 100000 in
theorem mOkl_9 : mt_law_9.all (fun ch => ch.all (mRowOk 10 cL_law false)) = true := by decide +kernel
set_option maxRecDepth 100000 in
theorem mOkl_10 : mt_law_10.all (fun ch => ch.all (mRowOk 10 cL_law false)) = true := by decide +kernel
set_option maxRecDepth 100000 in
theorem mOkl_11 : mt_law_11.all (fun ch => ch.all (mRowOk 10 cL_law false)) = true := by decide +kernel
set_option maxRecDepth 100000 in
theorem mOkl_12 : mt_law_12.all (fun ch => ch.all (mRowOk 10 cL_law false)) = true := by decide +kernel
set_option maxRecDepth 100000 in
theorem mOkl_13 : mt_law_13.all (fun ch => ch.all (mRowOk 10 cL_law false)) = true := by decide +kernel
set_option maxRecDepth 100000 in
theorem mOkl_14 : mt_law_14.all (fun ch => ch.all (mRowOk 10 cL_law false)) = true := by decide +kernel
set_option maxRecDepth 100000 in
theorem mOkl_15 : mt_law_15.all (fun ch => ch.all (mRowOk 10 cL_law false)) = true := by decide +kernel
set_option maxRecDepth 100000 in
theorem mOkl_16 : mt_law_16.all (fun ch => ch.all (mRowOk 10 cL_law false)) = true := by decide +kernel
set_option maxRecDepth 100000 in
theorem mOkl_17 : mt_law_17.all (fun ch => ch.all (mRowOk 10 cL_law false)) = true := by decide +kernel
set_option maxRecDepth 100000 in
theorem mOkl_18 : mt_law_18.all (fun ch => ch.all (mRowOk 10 cL_law false)) = true := by decide +kernel
theorem mOk_law : mMdOk md_law = true := by
  have h : mt_law.all (fun ch => ch.all (mRowOk 10 cL_law false)) = true := by
    simp only [mt_law, List.all_append, mOkl_0, mOkl_1, mOkl_2, mOkl_3, mOkl_4, mOkl_5, mOkl_6, mOkl_7, mOkl_8, mOkl_9, mOkl_10, mOkl_11, mOkl_12, mOkl_13, mOkl_14, mOkl_15, mOkl_16, mOkl_17, mOkl_18, Bool.and_self]
  have h2 : ((yL_law.name == "<init>") = false) := by decide +kernel
  show (mt_law.all (fun ch => ch.all (mRowOk 10 cL_law (yL_law.name == "<init>"))) && _ && _ && _) = true
  rw [h2, h]
  decide +kernel
end
section
/-! straight steps -/
def mNth : mSh → Nat → Option (Nat × Nat × List (Option Nat))
  | [], _ => none
  | a :: _, 0 => some a
  | _ :: t, i + 1 => mNth t i
theorem mNth_eq : ∀ (sp : mSh) (i : Nat), mNth sp i = sp[i]? := by
  intro sp
  induction sp with
  | nil => intro i; simp [mNth]
  | cons a t ih => intro i; cases i with
    | zero => rfl
    | succ i => simpa [mNth] using ih i
/-- a cell of the small machine, by its number -/
def mSpA (sp : mSh) (i : Nat) : Option (Nat × Nat × List (Option Nat)) := bif Nat.blt i 1000000 then mNth sp i else none
theorem mSpA_at {sp : mSh} {i : Nat} {sh : Nat × Nat × List (Option Nat)} (h : mSpA sp i = some sh) : sp[i]? = some sh ∧ i < 1000000 := by
  unfold mSpA at h
  cases hb : Nat.blt i 1000000 with
  | true => rw [hb] at h; exact ⟨by rw [← mNth_eq]; exact h, by simpa [Nat.blt_eq] using hb⟩
  | false => rw [hb] at h; cases h
theorem mAl_lt {h i : Nat} (hi : i < 1000000) : mAl h i = h + i := if_pos hi
def mRn : List (Option Nat) → Nat → Option Nat
  | [], _ => none
  | a :: _, 0 => a
  | _ :: t, k + 1 => mRn t k
theorem mRn_eq : ∀ (r : List (Option Nat)) (k : Nat), mRn r k = r.getD k none := by
  intro r
  induction r with
  | nil => intro k; cases k <;> rfl
  | cons a t ih => intro k; cases k with
    | zero => rfl
    | succ k => simpa [mRn] using ih k
def mRv (o : Option Nat) : Value := match o with
  | none => .null
  | some j => .ref j
/-- a reference is set in a cell -/
def mRs {β : Type} : List (Option Nat) → Nat → Option Nat → (List (Option Nat) → Option β) → Option β
  | [], _, _, _ => none
  | _ :: t, 0, v, k => k (v :: t)
  | a :: t, i + 1, v, k => mRs t i v (fun t' => k (a :: t'))
def mSpS {β : Type} : mSh → Nat → Nat → Option Nat → (mSh → Option β) → Option β
  | [], _, _, _, _ => none
  | a :: t, 0, f, v, k => mRs a.2.2 f v (fun r' => k ((a.1, a.2.1, r') :: t))
  | a :: t, i + 1, f, v, k => mSpS t i f v (fun t' => k (a :: t'))
theorem mRs_spec {β : Type} : ∀ {r : List (Option Nat)} {i : Nat} {v : Option Nat} {k : List (Option Nat) → Option β} {b : β}, mRs r i v k = some b → i < r.length ∧ k (r.set i v) = some b := by
  intro r
  induction r with
  | nil => intro i v k b h; simp [mRs] at h
  | cons a t ih =>
    intro i v k b h
    cases i with
    | zero => exact ⟨by simp, h⟩
    | succ i => obtain ⟨h1, h2⟩ := ih h; exact ⟨by simp; omega, h2⟩
theorem mSpS_spec {β : Type} : ∀ {sp : mSh} {i f : Nat} {v : Option Nat} {k : mSh → Option β} {b : β}, mSpS sp i f v k = some b → ∃ sh, sp[i]? = some sh ∧ f < sh.2.2.length ∧ k (sp.set i (sh.1, sh.2.1, sh.2.2.set f v)) = some b := by
  intro sp
  induction sp with
  | nil => intro i f v k b h; simp [mSpS] at h
  | cons a t ih =>
    intro i f v k b h
    cases i with
    | zero => obtain ⟨h1, h2⟩ := mRs_spec h; exact ⟨a, by simp, h1, h2⟩
    | succ i => obtain ⟨sh, h1, h2, h3⟩ := ih h; exact ⟨sh, by simpa using h1, h2, h3⟩
def mLdI (np : Nat) (L : mLs) (st : List Value) (sp : mSh) (σ : mHp) (i : Nat) : Option mCf := match mGet L i with
  | some (.int x) => some (np, L, .int x :: st, sp, σ)
  | _ => none
def mLdL (np : Nat) (L : mLs) (st : List Value) (sp : mSh) (σ : mHp) (i : Nat) : Option mCf := match mGet L i with
  | some (.long x) => some (np, L, .long x :: st, sp, σ)
  | _ => none
def mLdF (np : Nat) (L : mLs) (st : List Value) (sp : mSh) (σ : mHp) (i : Nat) : Option mCf := match mGet L i with
  | some (.float x) => some (np, L, .float x :: st, sp, σ)
  | _ => none
def mLdD (np : Nat) (L : mLs) (st : List Value) (sp : mSh) (σ : mHp) (i : Nat) : Option mCf := match mGet L i with
  | some (.double x) => some (np, L, .double x :: st, sp, σ)
  | _ => none
def mLdA (np : Nat) (L : mLs) (st : List Value) (sp : mSh) (σ : mHp) (i : Nat) : Option mCf := match mGet L i with
  | some (.ref x) => some (np, L, .ref x :: st, sp, σ)
  | some .null => some (np, L, .null :: st, sp, σ)
  | _ => none
def mStI (np : Nat) (L : mLs) (st : List Value) (sp : mSh) (σ : mHp) (i : Nat) : Option mCf := match st with
  | .int x :: t => mSet L i (.int x) (fun L1 => some (np, L1, t, sp, σ))
  | _ => none
def mStF (np : Nat) (L : mLs) (st : List Value) (sp : mSh) (σ : mHp) (i : Nat) : Option mCf := match st with
  | .float x :: t => mSet L i (.float x) (fun L1 => some (np, L1, t, sp, σ))
  | _ => none
def mStL2 (np : Nat) (L : mLs) (st : List Value) (sp : mSh) (σ : mHp) (i : Nat) : Option mCf := match st with
  | .long x :: t => mSet2 L i (.long x) (fun L1 => some (np, L1, t, sp, σ))
  | _ => none
def mStD (np : Nat) (L : mLs) (st : List Value) (sp : mSh) (σ : mHp) (i : Nat) : Option mCf := match st with
  | .double x :: t => mSet2 L i (.double x) (fun L1 => some (np, L1, t, sp, σ))
  | _ => none
def mStA (np : Nat) (L : mLs) (st : List Value) (sp : mSh) (σ : mHp) (i : Nat) : Option mCf := match st with
  | .ref x :: t => mSet L i (.ref x) (fun L1 => some (np, L1, t, sp, σ))
  | .null :: t => mSet L i .null (fun L1 => some (np, L1, t, sp, σ))
  | _ => none
def mGf (np a b c : Nat) (L : mLs) (st : List Value) (sp : mSh) (σ : mHp) : Option mCf := match st with
  | .ref i :: t => match mSpA sp i with
    | some (ci, n, r) => bif Nat.beq ci a && Nat.blt b n then (match c with
      | 0 => some (np, L, .int (σ.1 i b) :: t, sp, σ)
      | 1 => some (np, L, .long (σ.2.1 i b) :: t, sp, σ)
      | 2 => (match mRn r b with
        | none => some (np, L, .null :: t, sp, σ)
        | some j => some (np, L, .ref j :: t, sp, σ))
      | 3 => some (np, L, .int (σ.1 i b) :: t, sp, σ)
      | _ => none) else none
    | none => none
  | _ => none
/-- the cell is there, of the class and with the field -/
def mHas (sp : mSh) (i a b : Nat) : Bool := match mSpA sp i with
  | some (ci, n, _) => Nat.beq ci a && Nat.blt b n
  | none => false
def mPf (np a b c : Nat) (L : mLs) (st : List Value) (sp : mSh) (σ : mHp) : Option mCf := match c with
  | 0 => (match st with
    | .int x :: .ref i :: t => bif mHas sp i a b then some (np, L, t, sp, mWI σ i b x) else none
    | _ => none)
  | 10 => (match st with
    | .int x :: .ref i :: t => bif mHas sp i a b then some (np, L, t, sp, mWI σ i b x) else none
    | _ => none)
  | 1 => (match st with
    | .long x :: .ref i :: t => bif mHas sp i a b then some (np, L, t, sp, mWL σ i b x) else none
    | _ => none)
  | 2 => (match st with
    | .ref j :: .ref i :: t => bif mHas sp i a b then mSpS sp i b (some j) (fun sp1 => some (np, L, t, sp1, σ)) else none
    | .null :: .ref i :: t => bif mHas sp i a b then mSpS sp i b none (fun sp1 => some (np, L, t, sp1, σ)) else none
    | _ => none)
  | 12 => (match st with
    | .ref j :: .ref i :: t => bif mHas sp i a b then mSpS sp i b (some j) (fun sp1 => some (np, L, t, sp1, σ)) else none
    | _ => none)
  | _ => none
def mEx (r : mRow) (L : mLs) (st : List Value) (sp : mSh) (σ : mHp) : Option mCf := match r with
  | (ins, np, a, b, c, v, w) => match ins with
    | .iconst _ => some (np, L, .int v :: st, sp, σ)
    | .bipush _ => some (np, L, .int v :: st, sp, σ)
    | .sipush _ => some (np, L, .int v :: st, sp, σ)
    | .ldc _ => (match a with
      | 0 => some (np, L, .int v :: st, sp, σ)
      | _ => none)
    | .ldc2_w _ => some (np, L, .long w :: st, sp, σ)
    | .lconst n => (match n with
      | ⟨0, _⟩ => some (np, L, .long 0 :: st, sp, σ)
      | ⟨_, _⟩ => some (np, L, .long 1 :: st, sp, σ))
    | .dconst n => (match n with
      | ⟨0, _⟩ => some (np, L, .double FP.dconst0 :: st, sp, σ)
      | ⟨_, _⟩ => none)
    | .aconst_null => some (np, L, .null :: st, sp, σ)
    | .iload i => mLdI np L st sp σ i
    | .iload_n i => mLdI np L st sp σ i.val
    | .lload i => mLdL np L st sp σ i
    | .lload_n i => mLdL np L st sp σ i.val
    | .fload i => mLdF np L st sp σ i
    | .dload i => mLdD np L st sp σ i
    | .dload_n i => mLdD np L st sp σ i.val
    | .aload i => mLdA np L st sp σ i
    | .aload_n i => mLdA np L st sp σ i.val
    | .istore i => mStI np L st sp σ i
    | .istore_n i => mStI np L st sp σ i.val
    | .lstore i => mStL2 np L st sp σ i
    | .lstore_n i => mStL2 np L st sp σ i.val
    | .fstore i => mStF np L st sp σ i
    | .dstore i => mStD np L st sp σ i
    | .dstore_n i => mStD np L st sp σ i.val
    | .astore i => mStA np L st sp σ i
    | .astore_n i => mStA np L st sp σ i.val
    | .iinc i _ => (match mGet L i with
      | some (.int x) => mSet L i (.int (x + v)) (fun L1 => some (np, L1, st, sp, σ))
      | _ => none)
    | .dcmp op => (match st with
      | .double y :: .double x :: t => some (np, L, .int (Op.cmpValue (FP.dcmp x y) op) :: t, sp, σ)
      | _ => none)
    | .dup => (match st with
      | v1 :: t => (match v1.category with
        | 1 => some (np, L, v1 :: v1 :: t, sp, σ)
        | _ => none)
      | _ => none)
    | .dup2 => (match st with
      | v1 :: v2 :: t => (match v1.category, v2.category with
        | 1, 1 => some (np, L, v1 :: v2 :: v1 :: v2 :: t, sp, σ)
        | _, _ => none)
      | _ => none)
    | .pop => (match st with
      | v1 :: t => (match v1.category with
        | 1 => some (np, L, t, sp, σ)
        | _ => none)
      | _ => none)
    | .goto _ => some (a, L, st, sp, σ)
    | .ifnull _ => (match st with
      | .ref _ :: t => some (np, L, t, sp, σ)
      | .null :: t => some (a, L, t, sp, σ)
      | _ => none)
    | .ifnonnull _ => (match st with
      | .ref _ :: t => some (a, L, t, sp, σ)
      | .null :: t => some (np, L, t, sp, σ)
      | _ => none)
    | .getfield _ => mGf np a b c L st sp σ
    | .putfield _ => mPf np a b c L st sp σ
    | .arraylength => (match st with
      | .ref i :: t => (match mSpA sp i with
        | some (k, n, _) => bif Nat.ble 100 k && Nat.ble k 103 then some (np, L, .int (nI n) :: t, sp, σ) else none
        | none => none)
      | _ => none)
    | .iadd => (match st with
      | .int y :: .int x :: t => some (np, L, .int (x + y) :: t, sp, σ)
      | _ => none)
    | .isub => (match st with
      | .int y :: .int x :: t => some (np, L, .int (x - y) :: t, sp, σ)
      | _ => none)
    | .imul => (match st with
      | .int y :: .int x :: t => some (np, L, .int (x * y) :: t, sp, σ)
      | _ => none)
    | .iand => (match st with
      | .int y :: .int x :: t => some (np, L, .int (x &&& y) :: t, sp, σ)
      | _ => none)
    | .ior => (match st with
      | .int y :: .int x :: t => some (np, L, .int (x ||| y) :: t, sp, σ)
      | _ => none)
    | .ixor => (match st with
      | .int y :: .int x :: t => some (np, L, .int (x ^^^ y) :: t, sp, σ)
      | _ => none)
    | .ishl => (match st with
      | .int y :: .int x :: t => some (np, L, .int (x <<< (y &&& 31)) :: t, sp, σ)
      | _ => none)
    | .ishr => (match st with
      | .int y :: .int x :: t => some (np, L, .int (x >>> (y &&& 31)) :: t, sp, σ)
      | _ => none)
    | .ladd => (match st with
      | .long y :: .long x :: t => some (np, L, .long (x + y) :: t, sp, σ)
      | _ => none)
    | .lmul => (match st with
      | .long y :: .long x :: t => some (np, L, .long (x * y) :: t, sp, σ)
      | _ => none)
    | .land => (match st with
      | .long y :: .long x :: t => some (np, L, .long (x &&& y) :: t, sp, σ)
      | _ => none)
    | .lor => (match st with
      | .long y :: .long x :: t => some (np, L, .long (x ||| y) :: t, sp, σ)
      | _ => none)
    | .lshl => (match st with
      | .int y :: .long x :: t => some (np, L, .long (x <<< (y.toInt64 &&& 63)) :: t, sp, σ)
      | _ => none)
    | .lshr => (match st with
      | .int y :: .long x :: t => some (np, L, .long (x >>> (y.toInt64 &&& 63)) :: t, sp, σ)
      | _ => none)
    | .lushr => (match st with
      | .int y :: .long x :: t => some (np, L, .long ((x.toUInt64 >>> (y.toInt64.toUInt64 &&& Int64.toUInt64 63)).toInt64) :: t, sp, σ)
      | _ => none)
    | .lcmp => (match st with
      | .long y :: .long x :: t => some (np, L, .int (lg_cmp x y) :: t, sp, σ)
      | _ => none)
    | .i2l => (match st with
      | .int x :: t => some (np, L, .long x.toInt64 :: t, sp, σ)
      | _ => none)
    | .l2i => (match st with
      | .long x :: t => some (np, L, .int x.toInt32 :: t, sp, σ)
      | _ => none)
    | .i2b => (match st with
      | .int x :: t => some (np, L, .int x.toInt8.toInt32 :: t, sp, σ)
      | _ => none)
    | .i2c => (match st with
      | .int x :: t => some (np, L, .int (x.toUInt32 % 65536).toInt32 :: t, sp, σ)
      | _ => none)
    | .i2d => (match st with
      | .int x :: t => some (np, L, .double (FP.i2d x) :: t, sp, σ)
      | _ => none)
    | .i2f => (match st with
      | .int x :: t => some (np, L, .float (FP.i2f x) :: t, sp, σ)
      | _ => none)
    | .l2d => (match st with
      | .long x :: t => some (np, L, .double (FP.l2d x) :: t, sp, σ)
      | _ => none)
    | .l2f => (match st with
      | .long x :: t => some (np, L, .float (FP.l2f x) :: t, sp, σ)
      | _ => none)
    | .d2l => (match st with
      | .double x :: t => some (np, L, .long (FP.d2l x) :: t, sp, σ)
      | _ => none)
    | .f2l => (match st with
      | .float x :: t => some (np, L, .long (FP.f2l x) :: t, sp, σ)
      | _ => none)
    | .dneg => (match st with
      | .double x :: t => some (np, L, .double (FP.dneg x) :: t, sp, σ)
      | _ => none)
    | _ => none
/-- what holds at a method's entry, and of its code -/
def mX (g : mG) (md : mMd) (p : Program) (s : State) (m : MethodId) (args : Array Value) (meth : Method) (c : Code) (n0 : Nat) : Prop :=
  p.tables.exec = Jvm.exec ∧ c.code = md.2.2.1 ∧ c.maxLocals = md.2.2.2.1 ∧ s.vm.findClass (mCn md.2.1) = some m.cls ∧ (∀ w ∈ mTB, w.before args s = true) ∧ mK g s ∧ meth.sig.returnType = md.2.2.2.2.1 ∧ meth.locks = false ∧ s.heap.size = mGh g + n0 ∧ (∀ q : Nat, q < mGh g → s.heap[q]? = (mGH g)[q]?) ∧ meth.name = md.1.name
/-- from a state of the small machine on, the machine comes to Q -/
def mM (g : mG) (l : Launch) (md : mMd) (p : Program) (e : Env) (R : Room) (s : State) (m : MethodId) (args : Array Value) (below : List Frame) (meth : Method) (c : Code) (n0 t0 : Nat) (Q : State → Prop) (cf : mCf) : Prop :=
  n0 ≤ cf.2.2.2.1.length → t0 ≤ mTot cf.2.2.2.1 → ∀ (H : Heap) (locs : List Loc) (ls : Array Slot), mP g cf.2.2.2.1 cf.2.2.2.2 H → va_S (mA g) s.heap H locs → mLoc (mGh g) ls md.2.2.2.1 cf.2.1 → W p l e R s m args below meth c H locs (cf.2.2.2.1.length - n0) (mTot cf.2.2.2.1 - t0) Q (F0 m cf.1 ls (cf.2.2.1.map (mE (mGh g))))
theorem mDec {bs : ByteArray} {pc np n : Nat} {ins : Jvm.ClassFile.Instr} (h : decode bs pc = .ok (ins, np - pc)) (e : np = pc + n) : decode bs pc = .ok (ins, n) := by
  subst e
  rwa [Nat.add_sub_cancel_left] at h
section MS
variable {g : mG} {l : Launch} {md : mMd} {p : Program} {e : Env} {R : Room} {s : State} {m : MethodId} {args : Array Value} {below : List Frame} {meth : Method} {c : Code} {n0 t0 : Nat} {Q : State → Prop}
theorem mLdI_ok {pc np i : Nat} {L : mLs} {st : List Value} {sp : mSh} {σ : mHp} {cf : mCf} (h : mLdI np L st sp σ i = some cf) (hw : ∀ {H : Heap} {locs : List Loc} {ls : Array Slot} {k n : Nat} {x : Int32} {rest : List Value}, ls[i]? = some (.val (.int x)) → W p l e R s m args below meth c H locs k n Q (F0 m np ls (.int x :: rest)) → W p l e R s m args below meth c H locs k n Q (F0 m pc ls rest)) (k : mM g l md p e R s m args below meth c n0 t0 Q cf) : mM g l md p e R s m args below meth c n0 t0 Q (pc, L, st, sp, σ) := by
  unfold mLdI at h
  split at h
  · rename_i x hx
    cases h
    intro hn ht H locs ls hP hS hl
    exact hw (hl.at (mGet_at hx)) (k hn ht H locs ls hP hS hl)
  · cases h
theorem mLdL_ok {pc np i : Nat} {L : mLs} {st : List Value} {sp : mSh} {σ : mHp} {cf : mCf} (h : mLdL np L st sp σ i = some cf) (hw : ∀ {H : Heap} {locs : List Loc} {ls : Array Slot} {k n : Nat} {x : Int64} {rest : List Value}, ls[i]? = some (.val (.long x)) → W p l e R s m args below meth c H locs k n Q (F0 m np ls (.long x :: rest)) → W p l e R s m args below meth c H locs k n Q (F0 m pc ls rest)) (k : mM g l md p e R s m args below meth c n0 t0 Q cf) : mM g l md p e R s m args below meth c n0 t0 Q (pc, L, st, sp, σ) := by
  unfold mLdL at h
  split at h
  · rename_i x hx
    cases h
    intro hn ht H locs ls hP hS hl
    exact hw (hl.at (mGet_at hx)) (k hn ht H locs ls hP hS hl)
  · cases h
theorem mLdF_ok {pc np i : Nat} {L : mLs} {st : List Value} {sp : mSh} {σ : mHp} {cf : mCf} (h : mLdF np L st sp σ i = some cf) (hw : ∀ {H : Heap} {locs : List Loc} {ls : Array Slot} {k n : Nat} {x : UInt32} {rest : List Value}, ls[i]? = some (.val (.float x)) → W p l e R s m args below meth c H locs k n Q (F0 m np ls (.float x :: rest)) → W p l e R s m args below meth c H locs k n Q (F0 m pc ls rest)) (k : mM g l md p e R s m args below meth c n0 t0 Q cf) : mM g l md p e R s m args below meth c n0 t0 Q (pc, L, st, sp, σ) := by
  unfold mLdF at h
  split at h
  · rename_i x hx
    cases h
    intro hn ht H locs ls hP hS hl
    exact hw (hl.at (mGet_at hx)) (k hn ht H locs ls hP hS hl)
  · cases h
theorem mLdD_ok {pc np i : Nat} {L : mLs} {st : List Value} {sp : mSh} {σ : mHp} {cf : mCf} (h : mLdD np L st sp σ i = some cf) (hw : ∀ {H : Heap} {locs : List Loc} {ls : Array Slot} {k n : Nat} {x : UInt64} {rest : List Value}, ls[i]? = some (.val (.double x)) → W p l e R s m args below meth c H locs k n Q (F0 m np ls (.double x :: rest)) → W p l e R s m args below meth c H locs k n Q (F0 m pc ls rest)) (k : mM g l md p e R s m args below meth c n0 t0 Q cf) : mM g l md p e R s m args below meth c n0 t0 Q (pc, L, st, sp, σ) := by
  unfold mLdD at h
  split at h
  · rename_i x hx
    cases h
    intro hn ht H locs ls hP hS hl
    exact hw (hl.at (mGet_at hx)) (k hn ht H locs ls hP hS hl)
  · cases h
theorem mLdA_ok {pc np i : Nat} {L : mLs} {st : List Value} {sp : mSh} {σ : mHp} {cf : mCf} (h : mLdA np L st sp σ i = some cf) (hw : ∀ {H : Heap} {locs : List Loc} {ls : Array Slot} {k n : Nat} {x : Nat} {rest : List Value}, ls[i]? = some (.val (.ref x)) → W p l e R s m args below meth c H locs k n Q (F0 m np ls (.ref x :: rest)) → W p l e R s m args below meth c H locs k n Q (F0 m pc ls rest)) (hw0 : ∀ {H : Heap} {locs : List Loc} {ls : Array Slot} {k n : Nat} {rest : List Value}, ls[i]? = some (.val .null) → W p l e R s m args below meth c H locs k n Q (F0 m np ls (.null :: rest)) → W p l e R s m args below meth c H locs k n Q (F0 m pc ls rest)) (k : mM g l md p e R s m args below meth c n0 t0 Q cf) : mM g l md p e R s m args below meth c n0 t0 Q (pc, L, st, sp, σ) := by
  unfold mLdA at h
  split at h
  · rename_i x hx
    cases h
    intro hn ht H locs ls hP hS hl
    exact hw (hl.at (mGet_at hx)) (k hn ht H locs ls hP hS hl)
  · rename_i hx
    cases h
    intro hn ht H locs ls hP hS hl
    exact hw0 (hl.at (mGet_at hx)) (k hn ht H locs ls hP hS hl)
  · cases h
theorem mStI_ok {pc np i : Nat} {L : mLs} {st : List Value} {sp : mSh} {σ : mHp} {cf : mCf} (h : mStI np L st sp σ i = some cf) (hw : ∀ {H : Heap} {locs : List Loc} {ls : Array Slot} {k n nL : Nat} {x : Int32} {rest : List Value} {lv : List (Nat × Value)}, lv_has ls nL lv → i < nL → (∀ ls' : Array Slot, lv_has ls' nL ((i, Value.int x) :: lv.filter (fun q => !(q.1 == i) && !(q.1 + 1 == i && q.2.category == 2))) → W p l e R s m args below meth c H locs k n Q (F0 m np ls' rest)) → W p l e R s m args below meth c H locs k n Q (F0 m pc ls (.int x :: rest))) (k : mM g l md p e R s m args below meth c n0 t0 Q cf) : mM g l md p e R s m args below meth c n0 t0 Q (pc, L, st, sp, σ) := by
  unfold mStI at h
  split at h
  · obtain ⟨L1, h1, h2, h3, h4⟩ := mSet_spec h
    cases h1
    intro hn ht H locs ls hP hS hl
    exact hw hl.2 (by rw [← hl.1]; exact h3) (fun ls' hl' => k hn ht H locs ls' hP hS (mLoc.set1 (ls := ls) (h2.trans hl.1) hl' h4))
  · cases h
theorem mStF_ok {pc np i : Nat} {L : mLs} {st : List Value} {sp : mSh} {σ : mHp} {cf : mCf} (h : mStF np L st sp σ i = some cf) (hw : ∀ {H : Heap} {locs : List Loc} {ls : Array Slot} {k n nL : Nat} {x : UInt32} {rest : List Value} {lv : List (Nat × Value)}, lv_has ls nL lv → i < nL → (∀ ls' : Array Slot, lv_has ls' nL ((i, Value.float x) :: lv.filter (fun q => !(q.1 == i) && !(q.1 + 1 == i && q.2.category == 2))) → W p l e R s m args below meth c H locs k n Q (F0 m np ls' rest)) → W p l e R s m args below meth c H locs k n Q (F0 m pc ls (.float x :: rest))) (k : mM g l md p e R s m args below meth c n0 t0 Q cf) : mM g l md p e R s m args below meth c n0 t0 Q (pc, L, st, sp, σ) := by
  unfold mStF at h
  split at h
  · obtain ⟨L1, h1, h2, h3, h4⟩ := mSet_spec h
    cases h1
    intro hn ht H locs ls hP hS hl
    exact hw hl.2 (by rw [← hl.1]; exact h3) (fun ls' hl' => k hn ht H locs ls' hP hS (mLoc.set1 (ls := ls) (h2.trans hl.1) hl' h4))
  · cases h
theorem mStL2_ok {pc np i : Nat} {L : mLs} {st : List Value} {sp : mSh} {σ : mHp} {cf : mCf} (h : mStL2 np L st sp σ i = some cf) (hw : ∀ {H : Heap} {locs : List Loc} {ls : Array Slot} {k n nL : Nat} {x : Int64} {rest : List Value} {lv : List (Nat × Value)}, lv_has ls nL lv → i + 1 < nL → (∀ ls' : Array Slot, lv_has ls' nL ((i, Value.long x) :: lv.filter (fun q => !(q.1 == i) && (!(q.1 == i + 1) && !(q.1 + 1 == i && q.2.category == 2)))) → W p l e R s m args below meth c H locs k n Q (F0 m np ls' rest)) → W p l e R s m args below meth c H locs k n Q (F0 m pc ls (.long x :: rest))) (k : mM g l md p e R s m args below meth c n0 t0 Q cf) : mM g l md p e R s m args below meth c n0 t0 Q (pc, L, st, sp, σ) := by
  unfold mStL2 at h
  split at h
  · obtain ⟨L1, h1, h2, h3, h4⟩ := mSet2_spec h
    cases h1
    intro hn ht H locs ls hP hS hl
    exact hw hl.2 (by rw [← hl.1]; exact h3) (fun ls' hl' => k hn ht H locs ls' hP hS (mLoc.set2 (ls := ls) (h2.trans hl.1) hl' h4))
  · cases h
theorem mStD_ok {pc np i : Nat} {L : mLs} {st : List Value} {sp : mSh} {σ : mHp} {cf : mCf} (h : mStD np L st sp σ i = some cf) (hw : ∀ {H : Heap} {locs : List Loc} {ls : Array Slot} {k n nL : Nat} {x : UInt64} {rest : List Value} {lv : List (Nat × Value)}, lv_has ls nL lv → i + 1 < nL → (∀ ls' : Array Slot, lv_has ls' nL ((i, Value.double x) :: lv.filter (fun q => !(q.1 == i) && (!(q.1 == i + 1) && !(q.1 + 1 == i && q.2.category == 2)))) → W p l e R s m args below meth c H locs k n Q (F0 m np ls' rest)) → W p l e R s m args below meth c H locs k n Q (F0 m pc ls (.double x :: rest))) (k : mM g l md p e R s m args below meth c n0 t0 Q cf) : mM g l md p e R s m args below meth c n0 t0 Q (pc, L, st, sp, σ) := by
  unfold mStD at h
  split at h
  · obtain ⟨L1, h1, h2, h3, h4⟩ := mSet2_spec h
    cases h1
    intro hn ht H locs ls hP hS hl
    exact hw hl.2 (by rw [← hl.1]; exact h3) (fun ls' hl' => k hn ht H locs ls' hP hS (mLoc.set2 (ls := ls) (h2.trans hl.1) hl' h4))
  · cases h
theorem mStA_ok {pc np i : Nat} {L : mLs} {st : List Value} {sp : mSh} {σ : mHp} {cf : mCf} (h : mStA np L st sp σ i = some cf) (hw : ∀ {H : Heap} {locs : List Loc} {ls : Array Slot} {k n nL : Nat} {x : Nat} {rest : List Value} {lv : List (Nat × Value)}, lv_has ls nL lv → i < nL → (∀ ls' : Array Slot, lv_has ls' nL ((i, Value.ref x) :: lv.filter (fun q => !(q.1 == i) && !(q.1 + 1 == i && q.2.category == 2))) → W p l e R s m args below meth c H locs k n Q (F0 m np ls' rest)) → W p l e R s m args below meth c H locs k n Q (F0 m pc ls (.ref x :: rest))) (hw0 : ∀ {H : Heap} {locs : List Loc} {ls : Array Slot} {k n nL : Nat} {rest : List Value} {lv : List (Nat × Value)}, lv_has ls nL lv → i < nL → (∀ ls' : Array Slot, lv_has ls' nL ((i, Value.null) :: lv.filter (fun q => !(q.1 == i) && !(q.1 + 1 == i && q.2.category == 2))) → W p l e R s m args below meth c H locs k n Q (F0 m np ls' rest)) → W p l e R s m args below meth c H locs k n Q (F0 m pc ls (.null :: rest))) (k : mM g l md p e R s m args below meth c n0 t0 Q cf) : mM g l md p e R s m args below meth c n0 t0 Q (pc, L, st, sp, σ) := by
  unfold mStA at h
  split at h
  · obtain ⟨L1, h1, h2, h3, h4⟩ := mSet_spec h
    cases h1
    intro hn ht H locs ls hP hS hl
    exact hw hl.2 (by rw [← hl.1]; exact h3) (fun ls' hl' => k hn ht H locs ls' hP hS (mLoc.set1 (ls := ls) (h2.trans hl.1) hl' h4))
  · obtain ⟨L1, h1, h2, h3, h4⟩ := mSet_spec h
    cases h1
    intro hn ht H locs ls hP hS hl
    exact hw0 hl.2 (by rw [← hl.1]; exact h3) (fun ls' hl' => k hn ht H locs ls' hP hS (mLoc.set1 (ls := ls) (h2.trans hl.1) hl' h4))
  · cases h
theorem mFL_of {o i a b : Nat} (h : (o, i, a, b) ∈ mFL) : Cond.fieldLink (mCn o) i (mFd a b).1 (mFd a b).2.1 (mFd a b).2.2.1 ∈ mTB := mFL_in _ h
theorem mCl_of {a : Nat} (h : a < 10) : ∃ q : vw_C, vwCl[a]? = some q ∧ q ∈ vwCl ∧ q.2.2 = mNf a ∧ ∀ k, q.2.1 k = mFd a k := by
  have h1 : vwCl[a]? = some vwCl[a] := List.getElem?_eq_getElem (show a < vwCl.length from h)
  refine ⟨_, h1, List.getElem_mem _, ?_, ?_⟩
  · simp [mNf, h1]
  · intro k; simp [mFd, h1]
theorem mGf_ok {pc i a b cc : Nat} {L : mLs} {st : List Value} {sp : mSh} {σ : mHp} {cf : mCf} (hX : mX g md p s m args meth c n0) (hx : (md.2.1, i, a, b) ∈ mFL ∧ b < mNf a ∧ a < 10 ∧ cc = mFt a b) (hd : decode md.2.2.1 pc = .ok (.getfield i, 3)) (h : mGf (pc + 3) a b cc L st sp σ = some cf) (k : mM g l md p e R s m args below meth c n0 t0 Q cf) : mM g l md p e R s m args below meth c n0 t0 Q (pc, L, st, sp, σ) := by
  obtain ⟨hfl, hbn, ha, hcc⟩ := hx
  obtain ⟨q, hq, hqm, hqn, hqd⟩ := mCl_of ha
  unfold mGf at h
  split at h
  · rename_i ix t
    split at h
    · rename_i ci n r hsp
      obtain ⟨hat, hlt⟩ := mSpA_at hsp
      cases hb : (Nat.beq ci a && Nat.blt b n) with
      | false => rw [hb] at h; cases h
      | true =>
        rw [hb] at h
        simp only [Bool.and_eq_true] at hb
        have e1 : ci = a := Nat.eq_of_beq_eq_true hb.1
        have e2 : b < n := by simpa [Nat.blt_eq] using hb.2
        subst e1
        have key : ∀ {v : Value}, mFv (mGh g) σ ix r cc b = mE (mGh g) v → cf = (pc + 3, L, v :: t, sp, σ) → mM g l md p e R s m args below meth c n0 t0 Q (pc, L, .ref ix :: t, sp, σ) := by
          intro v hv hcf
          subst hcf
          intro hn ht H locs ls hP hS hl
          have K := k hn ht H locs ls hP hS hl
          show W p l e R s m args below meth c H locs _ _ Q (F0 m pc ls (.ref (mAl (mGh g) ix) :: t.map (mE (mGh g))))
          rw [mAl_lt hlt]
          have hat2 := mWl_at (g := g) (σ := σ) hat
          have hce : mCell g σ ix (ci, n, r) = .inr (ci, mFs (mGh g) σ ix (ci, n, r)) := by
            unfold mCell
            rw [if_neg (by show ¬ ci = 100; omega), if_neg (by show ¬ ci = 101; omega), if_neg (by show ¬ ci = 102; omega), if_neg (by show ¬ ci = 103; omega)]
          rw [hce] at hat2
          have hlink := hX.2.2.2.2.1 _ (mFL_of hfl)
          refine va_get (ref := (mFd ci b).1) (C := q.1) (T := q.2.1) (N := q.2.2) hX.1 hX.2.1 hX.2.2.2.2.1 (mLay_tb q hqm) hX.2.2.2.1 hX.2.2.2.2.2.1.1 hP ix hat2 hq b (by rw [hqn]; exact hbn) (by rw [hqd]; exact hlink) (by rw [hqd]; exact fun _ h9 => h9) (v := mE (mGh g) v) ?_ hd K
          rw [mFs_at e2, ← hv, hcc]
        simp only [cond_true] at h
        split at h
        · exact key (v := .int (σ.1 ix b)) (by simp [mFv, mE]) (by cases h; rfl)
        · exact key (v := .long (σ.2.1 ix b)) (by simp [mFv, mE]) (by cases h; rfl)
        · split at h
          · rename_i hr
            exact key (v := .null) (by rw [mFv, if_neg (by decide), if_pos rfl, ← mRn_eq, hr]; rfl) (by cases h; rfl)
          · rename_i j hr
            exact key (v := .ref j) (by rw [mFv, if_neg (by decide), if_pos rfl, ← mRn_eq, hr]; rfl) (by cases h; rfl)
        · exact key (v := .int (σ.1 ix b)) (by simp [mFv, mE]) (by cases h; rfl)
        · cases h
    · cases h
  · cases h
end MS
end
section
/-! the straight steps are the machine's -/
def mGoR (e : Nat × mRow) : Bool := match e.2.1 with
  | .goto _ => decide (e.2.2.1 = e.1 + 3)
  | _ => true
def mGoOk (m : mMd) : Bool := m.2.2.2.2.2.all (fun ch => ch.all mGoR)
def mOkP (m : mMd) : Prop := mMdOk m = true ∧ mGoOk m = true
set_option maxRecDepth 100000 in
theorem mGo_all : mdL.all mGoOk = true := by decide +kernel
set_option maxRecDepth 100000 in
theorem mOkP_law : mOkP md_law := ⟨mOk_law, by decide +kernel⟩
theorem mOkP_all {m : mMd} (h : m ∈ mdL) : mOkP m := ⟨mOk_all m h, List.all_eq_true.mp mGo_all m h⟩
theorem mGo_at {m : mMd} (hm : mGoOk m = true) {pc : Nat} {r : mRow} (h : mIn m.2.2.2.2.2 pc = some r) : mGoR (pc, r) = true := by
  obtain ⟨ch, h1, h2⟩ := mCh_mem (mLk_mem h)
  exact List.all_eq_true.mp (List.all_eq_true.mp hm ch h1) _ h2
theorem mFs_WI {h : Nat} {σ : mHp} {i a b n : Nat} {r : List (Option Nat)} {x : Int32} (h1 : mFt a b ≠ 1) (h2 : mFt a b ≠ 2) : mFs h (mWI σ i b x) i (a, n, r) = (mFs h σ i (a, n, r)).set b (.int x) := by
  apply List.ext_getElem?
  intro k
  by_cases hk : k < n
  · rw [mFs_at (sh := (a, n, r)) hk]
    by_cases hb : k = b
    · subst hb
      rw [List.getElem?_set_self (by simp [mFs, hk])]
      simp [mFv, mWI, h1, h2, upd]
    · rw [List.getElem?_set_ne (fun e => hb e.symm), mFs_at (sh := (a, n, r)) hk]
      simp [mFv, mWI, upd, hb]
  · rw [List.getElem?_eq_none (by simp [mFs]; omega), List.getElem?_eq_none (by simp [mFs]; omega)]
theorem mFs_WL {h : Nat} {σ : mHp} {i a b n : Nat} {r : List (Option Nat)} {x : Int64} (h1 : mFt a b = 1) : mFs h (mWL σ i b x) i (a, n, r) = (mFs h σ i (a, n, r)).set b (.long x) := by
  apply List.ext_getElem?
  intro k
  by_cases hk : k < n
  · rw [mFs_at (sh := (a, n, r)) hk]
    by_cases hb : k = b
    · subst hb
      rw [List.getElem?_set_self (by simp [mFs, hk])]
      simp [mFv, mWL, h1, vp_updL]
    · rw [List.getElem?_set_ne (fun e => hb e.symm), mFs_at (sh := (a, n, r)) hk]
      simp [mFv, mWL, vp_updL, hb]
  · rw [List.getElem?_eq_none (by simp [mFs]; omega), List.getElem?_eq_none (by simp [mFs]; omega)]
theorem mFs_R {h : Nat} {σ : mHp} {i a b n : Nat} {r : List (Option Nat)} {o : Option Nat} (h1 : mFt a b = 2) (hb : b < r.length) : mFs h σ i (a, n, r.set b o) = (mFs h σ i (a, n, r)).set b (va_rf (o.map (mAl h))) := by
  apply List.ext_getElem?
  intro k
  by_cases hk : k < n
  · rw [mFs_at (sh := (a, n, r.set b o)) hk]
    by_cases hkb : k = b
    · subst hkb
      rw [List.getElem?_set_self (by simp [mFs, hk])]
      simp [mFv, h1, List.getElem?_set_self hb]
    · rw [List.getElem?_set_ne (fun e => hkb e.symm), mFs_at (sh := (a, n, r)) hk]
      simp [mFv, List.getElem?_set_ne (fun e => hkb e.symm)]
  · rw [List.getElem?_eq_none (by simp [mFs]; omega), List.getElem?_eq_none (by simp [mFs]; omega)]
theorem mTot_set : ∀ {sp : mSh} {i c n : Nat} {r r' : List (Option Nat)}, sp[i]? = some (c, n, r) → mTot (sp.set i (c, n, r')) = mTot sp := by
  intro sp
  induction sp with
  | nil => intro i c n r r' h; simp at h
  | cons a t ih =>
    intro i c n r r' h
    cases i with
    | zero => simp at h; subst h; simp [mTot]
    | succ i => have := ih (r' := r') (by simpa using h); simp [mTot] at this ⊢; rw [this]
theorem mCell_obj {g : mG} {σ : mHp} {i a n : Nat} {r : List (Option Nat)} (ha : a < 10) : mCell g σ i (a, n, r) = .inr (a, mFs (mGh g) σ i (a, n, r)) := by
  unfold mCell
  rw [if_neg (by show ¬ a = 100; omega), if_neg (by show ¬ a = 101; omega), if_neg (by show ¬ a = 102; omega), if_neg (by show ¬ a = 103; omega)]
theorem mHas_at {sp : mSh} {i a b : Nat} (h : mHas sp i a b = true) : ∃ n r, sp[i]? = some (a, n, r) ∧ i < 1000000 ∧ b < n := by
  unfold mHas at h
  split at h
  · rename_i ci n r hsp
    obtain ⟨h1, h2⟩ := mSpA_at hsp
    simp only [Bool.and_eq_true] at h
    have e1 : ci = a := Nat.eq_of_beq_eq_true h.1
    subst e1
    exact ⟨n, r, h1, h2, by simpa [Nat.blt_eq] using h.2⟩
  · cases h
theorem mNar_i {t : FieldType} {x : Int32} (h : mTyC t = 0) : narrow t (.int x) = .int x ∧ fits t (.int x) = true := by
  cases t <;> simp [mTyC] at h
  exact ⟨rfl, rfl⟩
theorem mNar_l {t : FieldType} {x : Int64} (h : mTyC t = 1) : narrow t (.long x) = .long x ∧ fits t (.long x) = true := by
  cases t <;> simp [mTyC] at h
  exact ⟨rfl, rfl⟩
theorem mNar_r {t : FieldType} {x : Option Nat} (h : mTyC t = 2) : narrow t (va_rf x) = va_rf x ∧ fits t (va_rf x) = true := by
  cases t <;> simp [mTyC] at h <;> cases x <;> exact ⟨rfl, rfl⟩
theorem mNar_z {t : FieldType} {x : Int32} (h : mTyC t = 3) (hx : x = 0 ∨ x = 1) : narrow t (.int x) = .int x ∧ fits t (.int x) = true := by
  cases t <;> simp [mTyC] at h
  rcases hx with rfl | rfl <;> exact ⟨by decide, by decide⟩
section MS
variable {g : mG} {l : Launch} {md : mMd} {p : Program} {e : Env} {R : Room} {s : State} {m : MethodId} {args : Array Value} {below : List Frame} {meth : Method} {c : Code} {n0 t0 : Nat} {Q : State → Prop}
theorem mPut_ok {pc i a b cc ix n : Nat} {r : List (Option Nat)} {L : mLs} {t : List Value} {v : Value} {sp sp' : mSh} {σ σ' : mHp} (hX : mX g md p s m args meth c n0) (hfl : (md.2.1, i, a, b) ∈ mFL) (hbn : b < mNf a) (ha : a < 10) (hfin : (cc < 10 → (mFd a b).2.2.2 = false) ∧ (¬ cc < 10 → (mFd a b).2.2.2 = true ∧ (md.1.name == "<init>") = true ∧ (mFd a b).1 = mCn md.2.1)) (hd : decode md.2.2.1 pc = .ok (.putfield i, 3))
    (hat : sp[ix]? = some (a, n, r)) (hbl : b < n) (hv : narrow (mTy a b) v = v ∧ fits (mTy a b) v = true) (hw : (mWl g sp σ).set ix (mGh g + ix, .inr (a, (mFs (mGh g) σ ix (a, n, r)).set b v)) = mWl g sp' σ') (hlen : sp'.length = sp.length) (htot : mTot sp' = mTot sp)
    (k : mM g l md p e R s m args below meth c n0 t0 Q (pc + 3, L, t, sp', σ')) (hn : n0 ≤ sp.length) (ht : t0 ≤ mTot sp) {H : Heap} {locs : List Loc} {ls : Array Slot} (hP : mP g sp σ H) (hS : va_S (mA g) s.heap H locs) (hl : mLoc (mGh g) ls md.2.2.2.1 L) : W p l e R s m args below meth c H locs (sp.length - n0) (mTot sp - t0) Q (F0 m pc ls (v :: .ref (mGh g + ix) :: t.map (mE (mGh g)))) := by
  obtain ⟨q, hq, hqm, hqn, hqd⟩ := mCl_of ha
  have hat2 := mWl_at (g := g) (σ := σ) hat
  rw [mCell_obj ha] at hat2
  have hlink := hX.2.2.2.2.1 _ (mFL_of hfl)
  have kk : ∀ (H1 : Heap) (locs1 : List Loc), va_P (mGD g) vwCl ((mWl g sp σ).set ix (mGh g + ix, .inr (a, (mFs (mGh g) σ ix (a, n, r)).set b v))) H1 → va_D (mA g) ((mWl g sp σ).set ix (mGh g + ix, .inr (a, (mFs (mGh g) σ ix (a, n, r)).set b v))) → va_S (mA g) s.heap H1 locs1 → W p l e R s m args below meth c H1 locs1 (sp.length - n0) (mTot sp - t0) Q (F0 m (pc + 3) ls (t.map (mE (mGh g)))) := by
    intro H1 locs1 h1 _ h3
    rw [hw] at h1
    have K := k (by show n0 ≤ sp'.length; omega) (by show t0 ≤ mTot sp'; omega) H1 locs1 ls h1 h3 hl
    have K : W p l e R s m args below meth c H1 locs1 (sp'.length - n0) (mTot sp' - t0) Q (F0 m (pc + 3) ls (t.map (mE (mGh g)))) := K
    rw [hlen, htot] at K
    exact K
  by_cases hc : cc < 10
  · exact va_put (ref := (mFd a b).1) (C := q.1) (T := q.2.1) (N := q.2.2) hX.1 hX.2.1 hX.2.2.2.2.1 (mLay_tb q hqm) (mTy a) (mTy_ok hq) (mNm_ok hq) hX.2.2.2.1 hX.2.2.2.2.2.1.1 hP (mWl_D g sp σ) hS ix hat2 hq b (by rw [hqn]; exact hbn) (by rw [hqd]; exact hlink) (by rw [hqd]; exact fun _ h9 => h9) (by rw [hqd]; exact hfin.1 hc) (mTy_ok hq b (by rw [hqn]; exact hbn)) hv.1 hv.2 (by simp [mFs]; exact hbl) hd kk
  · obtain ⟨f1, f2, f3⟩ := hfin.2 hc
    exact va_putF (ref := (mFd a b).1) (C := q.1) (T := q.2.1) (N := q.2.2) hX.1 hX.2.1 hX.2.2.2.2.1 (mLay_tb q hqm) (mTy a) (mTy_ok hq) (mNm_ok hq) hX.2.2.2.1 hX.2.2.2.2.2.1.1 hP (mWl_D g sp σ) hS ix hat2 hq b (by rw [hqn]; exact hbn) (by rw [hqd]; exact hlink) (by rw [hqd]; exact fun _ h9 => h9) (by rw [hqd]; exact f1) (by rw [hX.2.2.2.2.2.2.2.2.2.2]; exact eq_of_beq f2) (by rw [hqd]; exact f3) (mTy_ok hq b (by rw [hqn]; exact hbn)) hv.1 hv.2 (by simp [mFs]; exact hbl) hd kk
theorem mTyC_at {a b : Nat} (ha : a < 10) (hb : b < mNf a) : mTyC (mTy a b) = mFt a b := mTyC_ok a ha b hb
theorem mPfI_ok {pc i a b cc ix : Nat} {L : mLs} {t : List Value} {x : Int32} {sp : mSh} {σ : mHp} (hX : mX g md p s m args meth c n0) (hfl : (md.2.1, i, a, b) ∈ mFL) (hbn : b < mNf a) (ha : a < 10) (hfin : (cc < 10 → (mFd a b).2.2.2 = false) ∧ (¬ cc < 10 → (mFd a b).2.2.2 = true ∧ (md.1.name == "<init>") = true ∧ (mFd a b).1 = mCn md.2.1)) (hd : decode md.2.2.1 pc = .ok (.putfield i, 3)) (hh : mHas sp ix a b = true) (hty : mFt a b = 0 ∨ (mFt a b = 3 ∧ (x = 0 ∨ x = 1))) (k : mM g l md p e R s m args below meth c n0 t0 Q (pc + 3, L, t, sp, mWI σ ix b x)) : mM g l md p e R s m args below meth c n0 t0 Q (pc, L, .int x :: .ref ix :: t, sp, σ) := by
  obtain ⟨n, r, h1, h2, h3⟩ := mHas_at hh
  intro hn ht H locs ls hP hS hl
  show W p l e R s m args below meth c H locs _ _ Q (F0 m pc ls (.int x :: .ref (mAl (mGh g) ix) :: t.map (mE (mGh g))))
  rw [mAl_lt h2]
  have ht1 : mFt a b ≠ 1 := by rcases hty with h | h <;> omega
  have ht2 : mFt a b ≠ 2 := by rcases hty with h | h <;> omega
  refine mPut_ok (cc := cc) hX hfl hbn ha hfin hd h1 h3 ?_ (mWl_set rfl h1 (by rw [mCell_obj ha, mFs_WI ht1 ht2]) (fun _ _ => rfl) (fun j sh hj => mCell_WI hj)) rfl rfl k hn ht hP hS hl
  rcases hty with h | h
  · exact mNar_i (by rw [mTyC_at ha hbn]; exact h)
  · exact mNar_z (by rw [mTyC_at ha hbn]; exact h.1) h.2
theorem mPfL_ok {pc i a b cc ix : Nat} {L : mLs} {t : List Value} {x : Int64} {sp : mSh} {σ : mHp} (hX : mX g md p s m args meth c n0) (hfl : (md.2.1, i, a, b) ∈ mFL) (hbn : b < mNf a) (ha : a < 10) (hfin : (cc < 10 → (mFd a b).2.2.2 = false) ∧ (¬ cc < 10 → (mFd a b).2.2.2 = true ∧ (md.1.name == "<init>") = true ∧ (mFd a b).1 = mCn md.2.1)) (hd : decode md.2.2.1 pc = .ok (.putfield i, 3)) (hh : mHas sp ix a b = true) (hty : mFt a b = 1) (k : mM g l md p e R s m args below meth c n0 t0 Q (pc + 3, L, t, sp, mWL σ ix b x)) : mM g l md p e R s m args below meth c n0 t0 Q (pc, L, .long x :: .ref ix :: t, sp, σ) := by
  obtain ⟨n, r, h1, h2, h3⟩ := mHas_at hh
  intro hn ht H locs ls hP hS hl
  show W p l e R s m args below meth c H locs _ _ Q (F0 m pc ls (.long x :: .ref (mAl (mGh g) ix) :: t.map (mE (mGh g))))
  rw [mAl_lt h2]
  exact mPut_ok (cc := cc) hX hfl hbn ha hfin hd h1 h3 (mNar_l (by rw [mTyC_at ha hbn]; exact hty)) (mWl_set rfl h1 (by rw [mCell_obj ha, mFs_WL hty]) (fun _ _ => rfl) (fun j sh hj => mCell_WL hj)) rfl rfl k hn ht hP hS hl
theorem mPfR_ok {pc i a b cc ix : Nat} {L : mLs} {t : List Value} {o : Option Nat} {sp : mSh} {σ : mHp} {cf : mCf} (hX : mX g md p s m args meth c n0) (hfl : (md.2.1, i, a, b) ∈ mFL) (hbn : b < mNf a) (ha : a < 10) (hfin : (cc < 10 → (mFd a b).2.2.2 = false) ∧ (¬ cc < 10 → (mFd a b).2.2.2 = true ∧ (md.1.name == "<init>") = true ∧ (mFd a b).1 = mCn md.2.1)) (hd : decode md.2.2.1 pc = .ok (.putfield i, 3)) (hh : mHas sp ix a b = true) (hty : mFt a b = 2) (h : mSpS sp ix b o (fun sp1 => some (pc + 3, L, t, sp1, σ)) = some cf) (k : mM g l md p e R s m args below meth c n0 t0 Q cf) : mM g l md p e R s m args below meth c n0 t0 Q (pc, L, mRv o :: .ref ix :: t, sp, σ) := by
  obtain ⟨n, r, h1, h2, h3⟩ := mHas_at hh
  obtain ⟨sh, g1, g2, g3⟩ := mSpS_spec h
  rw [h1] at g1
  cases g1
  cases g3
  intro hn ht H locs ls hP hS hl
  have e1 : mE (mGh g) (mRv o) = va_rf (o.map (mAl (mGh g))) := by cases o <;> rfl
  show W p l e R s m args below meth c H locs _ _ Q (F0 m pc ls (mE (mGh g) (mRv o) :: .ref (mAl (mGh g) ix) :: t.map (mE (mGh g))))
  rw [mAl_lt h2, e1]
  have hlt : ix < sp.length := (List.getElem?_eq_some_iff.mp h1).1
  exact mPut_ok (cc := cc) hX hfl hbn ha hfin hd h1 h3 (mNar_r (by rw [mTyC_at ha hbn]; exact hty)) (mWl_set (sh := (a, n, r.set b o)) (by simp) (by simp [hlt]) (by rw [mCell_obj ha, mFs_R hty g2]) (fun j hj => List.getElem?_set_ne (fun e => hj e.symm)) (fun j sh hj => rfl)) (by simp) (mTot_set h1) k hn ht hP hS hl
theorem mPf_ok {pc i a b cc : Nat} {L : mLs} {st : List Value} {sp : mSh} {σ : mHp} {cf : mCf} (hX : mX g md p s m args meth c n0) (hfl : (md.2.1, i, a, b) ∈ mFL) (hbn : b < mNf a) (ha : a < 10) (hc : (if cc < 10 then decide (cc = mFt a b ∧ (mFd a b).2.2.2 = false) else decide (cc = mFt a b + 10 ∧ (mFd a b).2.2.2 = true ∧ (md.1.name == "<init>") = true ∧ (mFd a b).1 = mCn md.2.1)) = true) (hd : decode md.2.2.1 pc = .ok (.putfield i, 3)) (h : mPf (pc + 3) a b cc L st sp σ = some cf) (k : mM g l md p e R s m args below meth c n0 t0 Q cf) : mM g l md p e R s m args below meth c n0 t0 Q (pc, L, st, sp, σ) := by
  have hfin : (cc < 10 → (mFd a b).2.2.2 = false) ∧ (¬ cc < 10 → (mFd a b).2.2.2 = true ∧ (md.1.name == "<init>") = true ∧ (mFd a b).1 = mCn md.2.1) := by
    by_cases h9 : cc < 10
    · rw [if_pos h9] at hc
      exact ⟨fun _ => (of_decide_eq_true hc).2, fun q => absurd h9 q⟩
    · rw [if_neg h9] at hc
      exact ⟨fun q => absurd q h9, fun _ => (of_decide_eq_true hc).2⟩
  have hft : (cc < 10 → cc = mFt a b) ∧ (¬ cc < 10 → cc = mFt a b + 10) := by
    by_cases h9 : cc < 10
    · rw [if_pos h9] at hc
      exact ⟨fun _ => (of_decide_eq_true hc).1, fun q => absurd h9 q⟩
    · rw [if_neg h9] at hc
      exact ⟨fun q => absurd q h9, fun _ => (of_decide_eq_true hc).1⟩
  unfold mPf at h
  split at h
  · split at h
    · rename_i x ix t
      cases hh : mHas sp ix a b with
      | false => rw [hh] at h; cases h
      | true => rw [hh] at h; cases h; exact mPfI_ok (cc := 0) hX hfl hbn ha hfin hd hh (Or.inl (hft.1 (by decide)).symm) k
    · cases h
  · split at h
    · rename_i x ix t
      cases hh : mHas sp ix a b with
      | false => rw [hh] at h; cases h
      | true => rw [hh] at h; cases h; exact mPfI_ok (cc := 10) hX hfl hbn ha hfin hd hh (Or.inl (by have := hft.2 (by decide); omega)) k
    · cases h
  · split at h
    · rename_i x ix t
      cases hh : mHas sp ix a b with
      | false => rw [hh] at h; cases h
      | true => rw [hh] at h; cases h; exact mPfL_ok (cc := 1) hX hfl hbn ha hfin hd hh (hft.1 (by decide)).symm k
    · cases h
  · split at h
    · rename_i j ix t
      cases hh : mHas sp ix a b with
      | false => rw [hh] at h; cases h
      | true => rw [hh] at h; exact mPfR_ok (cc := 2) (o := some j) hX hfl hbn ha hfin hd hh (hft.1 (by decide)).symm h k
    · rename_i ix t
      cases hh : mHas sp ix a b with
      | false => rw [hh] at h; cases h
      | true => rw [hh] at h; exact mPfR_ok (cc := 2) (o := none) hX hfl hbn ha hfin hd hh (hft.1 (by decide)).symm h k
    · cases h
  · split at h
    · rename_i j ix t
      cases hh : mHas sp ix a b with
      | false => rw [hh] at h; cases h
      | true => rw [hh] at h; exact mPfR_ok (cc := 12) (o := some j) hX hfl hbn ha hfin hd hh (by have := hft.2 (by decide); omega) h k
    · cases h
  · cases h
theorem mAlen_ok {pc ix kk n : Nat} {r : List (Option Nat)} {L : mLs} {t : List Value} {sp : mSh} {σ : mHp} (hX : mX g md p s m args meth c n0) (hd : decode md.2.2.1 pc = .ok (.arraylength, 1)) (hat : sp[ix]? = some (kk, n, r)) (hlt : ix < 1000000) (hk : 100 ≤ kk ∧ kk ≤ 103) (k : mM g l md p e R s m args below meth c n0 t0 Q (pc + 1, L, .int (nI n) :: t, sp, σ)) : mM g l md p e R s m args below meth c n0 t0 Q (pc, L, .ref ix :: t, sp, σ) := by
  intro hn ht H locs ls hP hS hl
  have K := k hn ht H locs ls hP hS hl
  show W p l e R s m args below meth c H locs _ _ Q (F0 m pc ls (.ref (mAl (mGh g) ix) :: t.map (mE (mGh g))))
  rw [mAl_lt hlt]
  have hat2 := mWl_at (g := g) (σ := σ) hat
  have hK := hX.2.2.2.2.2.1.1
  have hc : kk = 100 ∨ kk = 101 ∨ kk = 102 ∨ kk = 103 := by omega
  rcases hc with rfl | rfl | rfl | rfl
  · exact va_alen (x := (n, .inl (σ.1 ix))) hX.1 hX.2.1 hK hP ix 0 hat2 rfl rfl hd K
  · exact va_alen (x := (n, .inr (.inl (σ.2.1 ix)))) hX.1 hX.2.1 hK hP ix 1 hat2 rfl rfl hd K
  · exact va_alen (x := (n, .inr (.inr (.inr (.inl (σ.2.2 ix)))))) hX.1 hX.2.1 hK hP ix 2 hat2 rfl rfl hd K
  · exact va_alen (x := (n, .inr (.inr (.inr (.inr (fun j => (r.getD j none).map (mAl (mGh g)))))))) hX.1 hX.2.1 hK hP ix 3 hat2 rfl rfl hd K
set_option maxHeartbeats 4000000 in
theorem mEx_ok (hX : mX g md p s m args meth c n0) (hok : mOkP md) {pc : Nat} {r : mRow} {L : mLs} {st : List Value} {sp : mSh} {σ : mHp} {cf : mCf} (hr : mIn md.2.2.2.2.2 pc = some r) (h : mEx r L st sp σ = some cf) (k : mM g l md p e R s m args below meth c n0 t0 Q cf) : mM g l md p e R s m args below meth c n0 t0 Q (pc, L, st, sp, σ) := by
  obtain ⟨hd0, -, hx0⟩ := mRow_ok hok.1 hr
  obtain ⟨ins, np, a, b, cc, v, w⟩ := r
  have hx : mRx md.2.1 (md.1.name == "<init>") pc (ins, np, a, b, cc, v, w) = true := hx0
  have hd1 : decode md.2.2.1 pc = .ok (ins, np - pc) := hd0
  have hgo := mGo_at hok.2 hr
  clear hx0 hd0 hr
  cases ins with
  | iconst n =>
    obtain ⟨e1, e2⟩ : np = pc + 1 ∧ _ = v := of_decide_eq_true hx
    subst e1
    have hd := mDec hd1 rfl
    clear hd1 hx
    cases h
    intro hn ht H locs ls hP hS hl
    exact lv_iconst hX.1 hX.2.1 hd e2 (k hn ht H locs ls hP hS hl)
  | bipush n =>
    obtain ⟨e1, e2⟩ : np = pc + 2 ∧ _ = v := of_decide_eq_true hx
    subst e1
    have hd := mDec hd1 rfl
    clear hd1 hx
    cases h
    intro hn ht H locs ls hP hS hl
    exact lv_bipush hX.1 hX.2.1 hd e2 (k hn ht H locs ls hP hS hl)
  | sipush n =>
    obtain ⟨e1, e2⟩ : np = pc + 3 ∧ _ = v := of_decide_eq_true hx
    subst e1
    have hd := mDec hd1 rfl
    clear hd1 hx
    cases h
    intro hn ht H locs ls hP hS hl
    exact lv_sipush hX.1 hX.2.1 hd e2 (k hn ht H locs ls hP hS hl)
  | ldc i =>
    simp only [mRx, Bool.and_eq_true, decide_eq_true_eq] at hx
    obtain ⟨e1, e2⟩ := hx
    subst e1
    have hd := mDec hd1 rfl
    clear hd1
    simp only [mEx] at h
    split at h
    · cases h
      rw [if_pos rfl] at e2
      have e3 := hX.2.2.2.2.1 _ (mIL_in _ (of_decide_eq_true e2))
      intro hn ht H locs ls hP hS hl
      exact lv_ldc hX.1 hX.2.1 hX.2.2.2.1 e3 hd (k hn ht H locs ls hP hS hl)
    · cases h
  | ldc2_w i =>
    obtain ⟨e1, e2⟩ : np = pc + 3 ∧ (md.2.1, i, w) ∈ mLL := by simpa [mRx] using hx
    subst e1
    have hd := mDec hd1 rfl
    clear hd1 hx
    cases h
    have e3 := hX.2.2.2.2.1 _ (mLL_in _ e2)
    intro hn ht H locs ls hP hS hl
    exact lv_ldc2 hX.1 hX.2.1 hX.2.2.2.1 e3 hd (k hn ht H locs ls hP hS hl)
  | lconst n =>
    have e1 : np = pc + 1 := of_decide_eq_true hx
    subst e1
    have hd := mDec hd1 rfl
    clear hd1 hx
    simp only [mEx] at h
    split at h
    · cases h
      intro hn ht H locs ls hP hS hl
      exact lv_lconst hX.1 hX.2.1 hd rfl (k hn ht H locs ls hP hS hl)
    · rename_i n1 n2 h0
      have e9 : n1 = 1 := by
        have h5 : n1 ≠ 0 := fun z => by subst z; first | exact h0 rfl | exact h0 rfl HEq.rfl | exact h0 n2 | simp at h0
        omega
      subst e9
      cases h
      intro hn ht H locs ls hP hS hl
      exact lv_lconst hX.1 hX.2.1 hd rfl (k hn ht H locs ls hP hS hl)
  | dconst n =>
    have e1 : np = pc + 1 := of_decide_eq_true hx
    subst e1
    have hd := mDec hd1 rfl
    clear hd1 hx
    simp only [mEx] at h
    split at h
    · cases h
      intro hn ht H locs ls hP hS hl
      exact lv_dconst0 hX.1 hX.2.1 hd (k hn ht H locs ls hP hS hl)
    · cases h
  | aconst_null =>
    have e1 : np = pc + 1 := of_decide_eq_true hx
    subst e1
    have hd := mDec hd1 rfl
    clear hd1 hx
    cases h
    intro hn ht H locs ls hP hS hl
    exact lv_null hX.1 hX.2.1 hd (k hn ht H locs ls hP hS hl)
  | iload i =>
    have e1 : np = pc + 2 := of_decide_eq_true hx
    subst e1
    have hd := mDec hd1 rfl
    clear hd1 hx
    exact mLdI_ok h (fun h1 h2 => lv_iload hX.1 hX.2.1 hd h1 h2) k
  | iload_n i =>
    have e1 : np = pc + 1 := of_decide_eq_true hx
    subst e1
    have hd := mDec hd1 rfl
    clear hd1 hx
    exact mLdI_ok h (fun h1 h2 => lv_iload_n hX.1 hX.2.1 hd rfl h1 h2) k
  | lload i =>
    have e1 : np = pc + 2 := of_decide_eq_true hx
    subst e1
    have hd := mDec hd1 rfl
    clear hd1 hx
    exact mLdL_ok h (fun h1 h2 => lv_lload hX.1 hX.2.1 hd h1 h2) k
  | lload_n i =>
    have e1 : np = pc + 1 := of_decide_eq_true hx
    subst e1
    have hd := mDec hd1 rfl
    clear hd1 hx
    exact mLdL_ok h (fun h1 h2 => lv_lload_n hX.1 hX.2.1 hd rfl h1 h2) k
  | fload i =>
    have e1 : np = pc + 2 := of_decide_eq_true hx
    subst e1
    have hd := mDec hd1 rfl
    clear hd1 hx
    exact mLdF_ok h (fun h1 h2 => lv_fload hX.1 hX.2.1 hd h1 h2) k
  | dload i =>
    have e1 : np = pc + 2 := of_decide_eq_true hx
    subst e1
    have hd := mDec hd1 rfl
    clear hd1 hx
    exact mLdD_ok h (fun h1 h2 => lv_dload hX.1 hX.2.1 hd h1 h2) k
  | dload_n i =>
    have e1 : np = pc + 1 := of_decide_eq_true hx
    subst e1
    have hd := mDec hd1 rfl
    clear hd1 hx
    exact mLdD_ok h (fun h1 h2 => lv_dload_n hX.1 hX.2.1 hd rfl h1 h2) k
  | aload i =>
    have e1 : np = pc + 2 := of_decide_eq_true hx
    subst e1
    have hd := mDec hd1 rfl
    clear hd1 hx
    exact mLdA_ok h (fun h1 h2 => lv_aload hX.1 hX.2.1 hd h1 h2) (fun h1 h2 => lv_aloadN hX.1 hX.2.1 hd h1 h2) k
  | aload_n i =>
    have e1 : np = pc + 1 := of_decide_eq_true hx
    subst e1
    have hd := mDec hd1 rfl
    clear hd1 hx
    exact mLdA_ok h (fun h1 h2 => lv_aload_n hX.1 hX.2.1 hd rfl h1 h2) (fun h1 h2 => lv_aload_nN hX.1 hX.2.1 hd rfl h1 h2) k
  | istore i =>
    have e1 : np = pc + 2 := of_decide_eq_true hx
    subst e1
    have hd := mDec hd1 rfl
    clear hd1 hx
    exact mStI_ok h (fun h1 h2 h3 => lv_istore hX.1 hX.2.1 hd h1 h2 rfl h3) k
  | istore_n i =>
    have e1 : np = pc + 1 := of_decide_eq_true hx
    subst e1
    have hd := mDec hd1 rfl
    clear hd1 hx
    exact mStI_ok h (fun h1 h2 h3 => lv_istore_n hX.1 hX.2.1 hd rfl h1 h2 rfl h3) k
  | lstore i =>
    have e1 : np = pc + 2 := of_decide_eq_true hx
    subst e1
    have hd := mDec hd1 rfl
    clear hd1 hx
    exact mStL2_ok h (fun h1 h2 h3 => lv_lstore hX.1 hX.2.1 hd h1 h2 rfl h3) k
  | lstore_n i =>
    have e1 : np = pc + 1 := of_decide_eq_true hx
    subst e1
    have hd := mDec hd1 rfl
    clear hd1 hx
    exact mStL2_ok h (fun h1 h2 h3 => lv_lstore_n hX.1 hX.2.1 hd rfl h1 h2 rfl h3) k
  | fstore i =>
    have e1 : np = pc + 2 := of_decide_eq_true hx
    subst e1
    have hd := mDec hd1 rfl
    clear hd1 hx
    exact mStF_ok h (fun h1 h2 h3 => lv_fstore hX.1 hX.2.1 hd h1 h2 rfl h3) k
  | dstore i =>
    have e1 : np = pc + 2 := of_decide_eq_true hx
    subst e1
    have hd := mDec hd1 rfl
    clear hd1 hx
    exact mStD_ok h (fun h1 h2 h3 => lv_dstore hX.1 hX.2.1 hd h1 h2 rfl h3) k
  | dstore_n i =>
    have e1 : np = pc + 1 := of_decide_eq_true hx
    subst e1
    have hd := mDec hd1 rfl
    clear hd1 hx
    exact mStD_ok h (fun h1 h2 h3 => lv_dstore_n hX.1 hX.2.1 hd rfl h1 h2 rfl h3) k
  | astore i =>
    have e1 : np = pc + 2 := of_decide_eq_true hx
    subst e1
    have hd := mDec hd1 rfl
    clear hd1 hx
    exact mStA_ok h (fun h1 h2 h3 => lv_astore hX.1 hX.2.1 hd h1 h2 rfl h3) (fun h1 h2 h3 => lv_astoreN hX.1 hX.2.1 hd h1 h2 rfl h3) k
  | astore_n i =>
    have e1 : np = pc + 1 := of_decide_eq_true hx
    subst e1
    have hd := mDec hd1 rfl
    clear hd1 hx
    exact mStA_ok h (fun h1 h2 h3 => lv_astore_n hX.1 hX.2.1 hd rfl h1 h2 rfl h3) (fun h1 h2 h3 => lv_astore_nN hX.1 hX.2.1 hd rfl h1 h2 rfl h3) k
  | iinc i n =>
    obtain ⟨e1, e2⟩ : np = pc + 3 ∧ Int32.ofInt n = v := of_decide_eq_true hx
    subst e1
    have hd := mDec hd1 rfl
    clear hd1 hx
    simp only [mEx] at h
    split at h
    · rename_i x hx1
      obtain ⟨L1, h1, h2, h3, h4⟩ := mSet_spec h
      cases h1
      intro hn ht H locs ls hP hS hl
      obtain ⟨k0, hk0⟩ := List.getElem?_of_mem (mLp_mem.mpr ⟨i, .int x, rfl, mGet_at hx1⟩ : (0 + i, mE (mGh g) (.int x)) ∈ mLp (mGh g) 0 L)
      rw [Nat.zero_add] at hk0
      exact lv_iinc (v := x + v) hX.1 hX.2.1 hd hl.2 hk0 (by rw [e2]) (by rw [← hl.1]; exact h3) rfl (fun ls' hl' => k hn ht H locs ls' hP hS (mLoc.set1 (ls := ls) (h2.trans hl.1) hl' h4))
    · cases h
  | dcmp op =>
    have e1 : np = pc + 1 := of_decide_eq_true hx
    subst e1
    have hd := mDec hd1 rfl
    clear hd1 hx
    simp only [mEx] at h
    split at h
    · cases h
      intro hn ht H locs ls hP hS hl
      exact lv_dcmp hX.1 hX.2.1 hd (k hn ht H locs ls hP hS hl)
    · cases h
  | dup =>
    have e1 : np = pc + 1 := of_decide_eq_true hx
    subst e1
    have hd := mDec hd1 rfl
    clear hd1 hx
    simp only [mEx] at h
    split at h
    · split at h
      · rename_i hc
        cases h
        intro hn ht H locs ls hP hS hl
        exact lv_dup hX.1 hX.2.1 hd (by rw [mE_cat]; exact hc) (k hn ht H locs ls hP hS hl)
      · cases h
    · cases h
  | dup2 =>
    have e1 : np = pc + 1 := of_decide_eq_true hx
    subst e1
    have hd := mDec hd1 rfl
    clear hd1 hx
    simp only [mEx] at h
    split at h
    · split at h
      · rename_i hc1 hc2
        cases h
        intro hn ht H locs ls hP hS hl
        exact lv_dup2_11 hX.1 hX.2.1 hd (by rw [mE_cat]; exact hc1) (by rw [mE_cat]; exact hc2) (k hn ht H locs ls hP hS hl)
      · cases h
    · cases h
  | pop =>
    have e1 : np = pc + 1 := of_decide_eq_true hx
    subst e1
    have hd := mDec hd1 rfl
    clear hd1 hx
    simp only [mEx] at h
    split at h
    · split at h
      · rename_i hc
        cases h
        intro hn ht H locs ls hP hS hl
        exact lv_pop hX.1 hX.2.1 hd (by rw [mE_cat]; exact hc) (k hn ht H locs ls hP hS hl)
      · cases h
    · cases h
  | goto f =>
    have e1 : (pc : Int) + f = (a : Int) := by simpa [mRx, mBr] using hx
    have hd : decode md.2.2.1 pc = .ok (.goto f, 3) := mDec hd1 (of_decide_eq_true hgo)
    cases h
    intro hn ht H locs ls hP hS hl
    exact lv_goto hX.1 hX.2.1 hd e1 (k hn ht H locs ls hP hS hl)
  | ifnull f =>
    obtain ⟨e1, e2⟩ : np = pc + 3 ∧ (pc : Int) + f = (a : Int) := by simpa [mRx, mBr] using hx
    subst e1
    have hd := mDec hd1 rfl
    clear hd1 hx
    simp only [mEx] at h
    split at h
    · cases h
      intro hn ht H locs ls hP hS hl
      exact lv_ifnull hX.1 hX.2.1 hd (k hn ht H locs ls hP hS hl)
    · cases h
      intro hn ht H locs ls hP hS hl
      exact lv_ifnullN hX.1 hX.2.1 hd e2 (k hn ht H locs ls hP hS hl)
    · cases h
  | ifnonnull f =>
    obtain ⟨e1, e2⟩ : np = pc + 3 ∧ (pc : Int) + f = (a : Int) := by simpa [mRx, mBr] using hx
    subst e1
    have hd := mDec hd1 rfl
    clear hd1 hx
    simp only [mEx] at h
    split at h
    · cases h
      intro hn ht H locs ls hP hS hl
      exact lv_ifnonnull hX.1 hX.2.1 hd e2 (k hn ht H locs ls hP hS hl)
    · cases h
      intro hn ht H locs ls hP hS hl
      exact lv_ifnonnullN hX.1 hX.2.1 hd (k hn ht H locs ls hP hS hl)
    · cases h
  | getfield i =>
    obtain ⟨e1, e2⟩ : np = pc + 3 ∧ (md.2.1, i, a, b) ∈ mFL ∧ b < mNf a ∧ a < 10 ∧ cc = mFt a b := by simpa [mRx] using hx
    subst e1
    exact mGf_ok hX e2 (mDec hd1 rfl) h k
  | putfield i =>
    simp only [mRx, Bool.and_eq_true, decide_eq_true_eq] at hx
    obtain ⟨⟨e1, e2, e3, e4⟩, e5⟩ := hx
    subst e1
    exact mPf_ok hX e2 e3 e4 e5 (mDec hd1 rfl) h k
  | arraylength =>
    have e1 : np = pc + 1 := of_decide_eq_true hx
    subst e1
    have hd := mDec hd1 rfl
    clear hd1 hx
    simp only [mEx] at h
    split at h
    · split at h
      · rename_i kk n r hsp
        obtain ⟨h1, h2⟩ := mSpA_at hsp
        cases hb : (Nat.ble 100 kk && Nat.ble kk 103) with
        | false => rw [hb] at h; cases h
        | true =>
          rw [hb] at h
          simp only [Bool.and_eq_true] at hb
          cases h
          exact mAlen_ok hX hd h1 h2 ⟨Nat.le_of_ble_eq_true hb.1, Nat.le_of_ble_eq_true hb.2⟩ k
      · cases h
    · cases h
  | iadd =>
    have e1 : np = pc + 1 := of_decide_eq_true hx
    subst e1
    have hd := mDec hd1 rfl
    clear hd1 hx
    simp only [mEx] at h
    split at h
    · cases h
      intro hn ht H locs ls hP hS hl
      have K := k hn ht H locs ls hP hS hl
      exact lv_iadd hX.1 hX.2.1 hd K
    · cases h
  | isub =>
    have e1 : np = pc + 1 := of_decide_eq_true hx
    subst e1
    have hd := mDec hd1 rfl
    clear hd1 hx
    simp only [mEx] at h
    split at h
    · cases h
      intro hn ht H locs ls hP hS hl
      have K := k hn ht H locs ls hP hS hl
      exact lv_isub hX.1 hX.2.1 hd K
    · cases h
  | imul =>
    have e1 : np = pc + 1 := of_decide_eq_true hx
    subst e1
    have hd := mDec hd1 rfl
    clear hd1 hx
    simp only [mEx] at h
    split at h
    · cases h
      intro hn ht H locs ls hP hS hl
      have K := k hn ht H locs ls hP hS hl
      exact lv_imul hX.1 hX.2.1 hd K
    · cases h
  | iand =>
    have e1 : np = pc + 1 := of_decide_eq_true hx
    subst e1
    have hd := mDec hd1 rfl
    clear hd1 hx
    simp only [mEx] at h
    split at h
    · cases h
      intro hn ht H locs ls hP hS hl
      have K := k hn ht H locs ls hP hS hl
      exact lv_iand hX.1 hX.2.1 hd K
    · cases h
  | ior =>
    have e1 : np = pc + 1 := of_decide_eq_true hx
    subst e1
    have hd := mDec hd1 rfl
    clear hd1 hx
    simp only [mEx] at h
    split at h
    · cases h
      intro hn ht H locs ls hP hS hl
      have K := k hn ht H locs ls hP hS hl
      exact lv_ior hX.1 hX.2.1 hd K
    · cases h
  | ixor =>
    have e1 : np = pc + 1 := of_decide_eq_true hx
    subst e1
    have hd := mDec hd1 rfl
    clear hd1 hx
    simp only [mEx] at h
    split at h
    · cases h
      intro hn ht H locs ls hP hS hl
      have K := k hn ht H locs ls hP hS hl
      exact lv_ixor hX.1 hX.2.1 hd K
    · cases h
  | ishl =>
    have e1 : np = pc + 1 := of_decide_eq_true hx
    subst e1
    have hd := mDec hd1 rfl
    clear hd1 hx
    simp only [mEx] at h
    split at h
    · cases h
      intro hn ht H locs ls hP hS hl
      have K := k hn ht H locs ls hP hS hl
      exact lv_ishl hX.1 hX.2.1 hd K
    · cases h
  | ishr =>
    have e1 : np = pc + 1 := of_decide_eq_true hx
    subst e1
    have hd := mDec hd1 rfl
    clear hd1 hx
    simp only [mEx] at h
    split at h
    · cases h
      intro hn ht H locs ls hP hS hl
      have K := k hn ht H locs ls hP hS hl
      exact lv_ishr hX.1 hX.2.1 hd K
    · cases h
  | ladd =>
    have e1 : np = pc + 1 := of_decide_eq_true hx
    subst e1
    have hd := mDec hd1 rfl
    clear hd1 hx
    simp only [mEx] at h
    split at h
    · cases h
      intro hn ht H locs ls hP hS hl
      have K := k hn ht H locs ls hP hS hl
      exact lv_ladd hX.1 hX.2.1 hd K
    · cases h
  | lmul =>
    have e1 : np = pc + 1 := of_decide_eq_true hx
    subst e1
    have hd := mDec hd1 rfl
    clear hd1 hx
    simp only [mEx] at h
    split at h
    · cases h
      intro hn ht H locs ls hP hS hl
      have K := k hn ht H locs ls hP hS hl
      exact lv_lmul hX.1 hX.2.1 hd K
    · cases h
  | land =>
    have e1 : np = pc + 1 := of_decide_eq_true hx
    subst e1
    have hd := mDec hd1 rfl
    clear hd1 hx
    simp only [mEx] at h
    split at h
    · cases h
      intro hn ht H locs ls hP hS hl
      have K := k hn ht H locs ls hP hS hl
      exact lv_land hX.1 hX.2.1 hd K
    · cases h
  | lor =>
    have e1 : np = pc + 1 := of_decide_eq_true hx
    subst e1
    have hd := mDec hd1 rfl
    clear hd1 hx
    simp only [mEx] at h
    split at h
    · cases h
      intro hn ht H locs ls hP hS hl
      have K := k hn ht H locs ls hP hS hl
      exact lv_lor hX.1 hX.2.1 hd K
    · cases h
  | lshl =>
    have e1 : np = pc + 1 := of_decide_eq_true hx
    subst e1
    have hd := mDec hd1 rfl
    clear hd1 hx
    simp only [mEx] at h
    split at h
    · cases h
      intro hn ht H locs ls hP hS hl
      have K := k hn ht H locs ls hP hS hl
      exact lv_lshl hX.1 hX.2.1 hd rfl K
    · cases h
  | lshr =>
    have e1 : np = pc + 1 := of_decide_eq_true hx
    subst e1
    have hd := mDec hd1 rfl
    clear hd1 hx
    simp only [mEx] at h
    split at h
    · cases h
      intro hn ht H locs ls hP hS hl
      have K := k hn ht H locs ls hP hS hl
      exact lv_lshr hX.1 hX.2.1 hd rfl K
    · cases h
  | lushr =>
    have e1 : np = pc + 1 := of_decide_eq_true hx
    subst e1
    have hd := mDec hd1 rfl
    clear hd1 hx
    simp only [mEx] at h
    split at h
    · cases h
      intro hn ht H locs ls hP hS hl
      have K := k hn ht H locs ls hP hS hl
      exact lv_lushr hX.1 hX.2.1 hd rfl K
    · cases h
  | lcmp =>
    have e1 : np = pc + 1 := of_decide_eq_true hx
    subst e1
    have hd := mDec hd1 rfl
    clear hd1 hx
    simp only [mEx] at h
    split at h
    · cases h
      intro hn ht H locs ls hP hS hl
      have K := k hn ht H locs ls hP hS hl
      exact W.lcmp hX.1 hX.2.1 hd K
    · cases h
  | i2l =>
    have e1 : np = pc + 1 := of_decide_eq_true hx
    subst e1
    have hd := mDec hd1 rfl
    clear hd1 hx
    simp only [mEx] at h
    split at h
    · cases h
      intro hn ht H locs ls hP hS hl
      have K := k hn ht H locs ls hP hS hl
      exact lv_i2l hX.1 hX.2.1 hd rfl K
    · cases h
  | l2i =>
    have e1 : np = pc + 1 := of_decide_eq_true hx
    subst e1
    have hd := mDec hd1 rfl
    clear hd1 hx
    simp only [mEx] at h
    split at h
    · cases h
      intro hn ht H locs ls hP hS hl
      have K := k hn ht H locs ls hP hS hl
      exact lv_l2i hX.1 hX.2.1 hd rfl K
    · cases h
  | i2b =>
    have e1 : np = pc + 1 := of_decide_eq_true hx
    subst e1
    have hd := mDec hd1 rfl
    clear hd1 hx
    simp only [mEx] at h
    split at h
    · cases h
      intro hn ht H locs ls hP hS hl
      have K := k hn ht H locs ls hP hS hl
      exact lv_i2b hX.1 hX.2.1 hd rfl K
    · cases h
  | i2c =>
    have e1 : np = pc + 1 := of_decide_eq_true hx
    subst e1
    have hd := mDec hd1 rfl
    clear hd1 hx
    simp only [mEx] at h
    split at h
    · cases h
      intro hn ht H locs ls hP hS hl
      have K := k hn ht H locs ls hP hS hl
      exact lv_i2c hX.1 hX.2.1 hd rfl K
    · cases h
  | i2d =>
    have e1 : np = pc + 1 := of_decide_eq_true hx
    subst e1
    have hd := mDec hd1 rfl
    clear hd1 hx
    simp only [mEx] at h
    split at h
    · cases h
      intro hn ht H locs ls hP hS hl
      have K := k hn ht H locs ls hP hS hl
      exact lv_i2d hX.1 hX.2.1 hd K
    · cases h
  | i2f =>
    have e1 : np = pc + 1 := of_decide_eq_true hx
    subst e1
    have hd := mDec hd1 rfl
    clear hd1 hx
    simp only [mEx] at h
    split at h
    · cases h
      intro hn ht H locs ls hP hS hl
      have K := k hn ht H locs ls hP hS hl
      exact lv_i2f hX.1 hX.2.1 hd K
    · cases h
  | l2d =>
    have e1 : np = pc + 1 := of_decide_eq_true hx
    subst e1
    have hd := mDec hd1 rfl
    clear hd1 hx
    simp only [mEx] at h
    split at h
    · cases h
      intro hn ht H locs ls hP hS hl
      have K := k hn ht H locs ls hP hS hl
      exact lv_l2d hX.1 hX.2.1 hd K
    · cases h
  | l2f =>
    have e1 : np = pc + 1 := of_decide_eq_true hx
    subst e1
    have hd := mDec hd1 rfl
    clear hd1 hx
    simp only [mEx] at h
    split at h
    · cases h
      intro hn ht H locs ls hP hS hl
      have K := k hn ht H locs ls hP hS hl
      exact lv_l2f hX.1 hX.2.1 hd K
    · cases h
  | d2l =>
    have e1 : np = pc + 1 := of_decide_eq_true hx
    subst e1
    have hd := mDec hd1 rfl
    clear hd1 hx
    simp only [mEx] at h
    split at h
    · cases h
      intro hn ht H locs ls hP hS hl
      have K := k hn ht H locs ls hP hS hl
      exact lv_d2l hX.1 hX.2.1 hd K
    · cases h
  | f2l =>
    have e1 : np = pc + 1 := of_decide_eq_true hx
    subst e1
    have hd := mDec hd1 rfl
    clear hd1 hx
    simp only [mEx] at h
    split at h
    · cases h
      intro hn ht H locs ls hP hS hl
      have K := k hn ht H locs ls hP hS hl
      exact lv_f2l hX.1 hX.2.1 hd K
    · cases h
  | dneg =>
    have e1 : np = pc + 1 := of_decide_eq_true hx
    subst e1
    have hd := mDec hd1 rfl
    clear hd1 hx
    simp only [mEx] at h
    split at h
    · cases h
      intro hn ht H locs ls hP hS hl
      have K := k hn ht H locs ls hP hS hl
      exact lv_dneg hX.1 hX.2.1 hd K
    · cases h
  | _ => simp [mEx] at h
end MS
end
section
/-! steps with a condition: arrays, flags, divisions, numbers that are no NaN; branches; switches -/
def mSd (g : mG) (r : mRow) (L : mLs) (st : List Value) (sp : mSh) (σ : mHp) : Option (Prop × mCf) := match r with
  | (ins, np, a, b, c, _, _) => match ins with
    | .iaload => (match st with
      | .int i :: .ref q :: t => (match mSpA sp q with
        | some (100, n, _) => some (vp_in i n, np, L, .int (σ.1 q i.toNatClampNeg) :: t, sp, σ)
        | _ => none)
      | _ => none)
    | .laload => (match st with
      | .int i :: .ref q :: t => (match mSpA sp q with
        | some (101, n, _) => some (vp_in i n, np, L, .long (σ.2.1 q i.toNatClampNeg) :: t, sp, σ)
        | _ => none)
      | _ => none)
    | .daload => (match st with
      | .int i :: .ref q :: t => (match mSpA sp q with
        | some (102, n, _) => some (vp_in i n, np, L, .double (σ.2.2 q i.toNatClampNeg) :: t, sp, σ)
        | _ => none)
      | _ => none)
    | .aaload => (match st with
      | .int i :: .ref q :: t => (match mSpA sp q with
        | some (103, n, r) => (match mRn r i.toNatClampNeg with
          | none => some (vp_in i n, np, L, .null :: t, sp, σ)
          | some j => some (vp_in i n, np, L, .ref j :: t, sp, σ))
        | _ => none)
      | _ => none)
    | .iastore => (match st with
      | .int x :: .int i :: .ref q :: t => (match mSpA sp q with
        | some (100, n, _) => some (vp_in i n, np, L, t, sp, mWI σ q i.toNatClampNeg x)
        | _ => none)
      | _ => none)
    | .lastore => (match st with
      | .long x :: .int i :: .ref q :: t => (match mSpA sp q with
        | some (101, n, _) => some (vp_in i n, np, L, t, sp, mWL σ q i.toNatClampNeg x)
        | _ => none)
      | _ => none)
    | .dastore => (match st with
      | .double x :: .int i :: .ref q :: t => (match mSpA sp q with
        | some (102, n, _) => some (vp_in i n, np, L, t, sp, mWD σ q i.toNatClampNeg x)
        | _ => none)
      | _ => none)
    | .putfield _ => (match c with
      | 3 => (match st with
        | .int x :: .ref i :: t => bif mHas sp i a b then some (x = 0 ∨ x = 1, np, L, t, sp, mWI σ i b x) else none
        | _ => none)
      | _ => none)
    | .lrem => (match st with
      | .long y :: .long x :: t => some (¬ y = 0, np, L, .long (x - x / y * y) :: t, sp, σ)
      | _ => none)
    | .f2d => (match st with
      | .float x :: t => some (vf_n64 (FP.f2d x), np, L, .double (FP.f2d x) :: t, sp, σ)
      | _ => none)
    | .d2f => (match st with
      | .double x :: t => some (vf_n32 (FP.d2f x), np, L, .float (FP.d2f x) :: t, sp, σ)
      | _ => none)
    | .fdiv => (match st with
      | .float y :: .float x :: t => some (vf_n32 (FP.fdiv x y), np, L, .float (FP.fdiv x y) :: t, sp, σ)
      | _ => none)
    | .ddiv => (match st with
      | .double y :: .double x :: t => some (vf_n64 (FP.ddiv x y), np, L, .double (FP.ddiv x y) :: t, sp, σ)
      | _ => none)
    | .dadd => (match st with
      | .double y :: .double x :: t => some (vf_n64 (FP.dadd x y), np, L, .double (FP.dadd x y) :: t, sp, σ)
      | _ => none)
    | .dsub => (match st with
      | .double y :: .double x :: t => some (vf_n64 (FP.dsub x y), np, L, .double (FP.dsub x y) :: t, sp, σ)
      | _ => none)
    | .ldc _ => (match a with
      | 1 => some (True, np, L, .ref (1000000 + mGs g b) :: st, sp, σ)
      | _ => none)
    | _ => none
def mBn (r : mRow) (L : mLs) (st : List Value) (sp : mSh) (σ : mHp) : Option (Prop × mCf × mCf) := match r with
  | (ins, np, a, _, _, _, _) => match ins with
    | .if_icmp cd _ => (match st with
      | .int y :: .int x :: t => (match cd with
        | .eq => some (x = y, (a, L, t, sp, σ), (np, L, t, sp, σ))
        | .ne => some (x = y, (np, L, t, sp, σ), (a, L, t, sp, σ))
        | .lt => some (x < y, (a, L, t, sp, σ), (np, L, t, sp, σ))
        | .ge => some (y ≤ x, (a, L, t, sp, σ), (np, L, t, sp, σ))
        | .gt => some (y < x, (a, L, t, sp, σ), (np, L, t, sp, σ))
        | .le => some (x ≤ y, (a, L, t, sp, σ), (np, L, t, sp, σ)))
      | _ => none)
    | .ifCond cd _ => (match st with
      | .int x :: t => (match cd with
        | .eq => some (x = 0, (a, L, t, sp, σ), (np, L, t, sp, σ))
        | .ne => some (x = 0, (np, L, t, sp, σ), (a, L, t, sp, σ))
        | .lt => some (x < 0, (a, L, t, sp, σ), (np, L, t, sp, σ))
        | .ge => some (0 ≤ x, (a, L, t, sp, σ), (np, L, t, sp, σ))
        | .gt => some (0 < x, (a, L, t, sp, σ), (np, L, t, sp, σ))
        | .le => some (x ≤ 0, (a, L, t, sp, σ), (np, L, t, sp, σ)))
      | _ => none)
    | _ => none
def mSw (pc : Nat) (r : mRow) (st : List Value) : Option (Int32 × List (Int32 × Nat) × Nat × List Value) := match r.1 with
  | .tableswitch d lo _ offs => (match st with
    | .int x :: t => some (x, mSwL pc lo offs.toList, ((pc : Int) + d).toNat, t)
    | _ => none)
  | .lookupswitch d ps => (match st with
    | .int x :: t => some (x, mSwM pc ps.toList, ((pc : Int) + d).toNat, t)
    | _ => none)
  | _ => none
/-- what is owed at a switch: a goal a key, in their order, then the rest -/
def mSwG (F : Nat → Prop) (x : Int32) : List (Int32 × Nat) → Nat → Prop
  | [], d => F d
  | (v, t) :: l, d => (x = v → F t) ∧ (¬ x = v → mSwG F x l d)
/-- where a switch goes -/
def mSwT (x : Int32) : List (Int32 × Nat) → Nat → Nat
  | [], d => d
  | (v, t) :: l, d => if x = v then t else mSwT x l d
theorem mSwG_at {F : Nat → Prop} {x : Int32} : ∀ {l : List (Int32 × Nat)} {d : Nat}, mSwG F x l d → F (mSwT x l d) := by
  intro l
  induction l with
  | nil => intro d h; exact h
  | cons a t ih =>
    intro d h
    obtain ⟨v, w⟩ := a
    by_cases hx : x = v
    · simp only [mSwT, if_pos hx]; exact h.1 hx
    · simp only [mSwT, if_neg hx]; exact ih (h.2 hx)
theorem mSwT_out {pc : Nat} {x : Int32} {d : Nat} : ∀ {offs : List Int} {lo : Int}, mSwC pc lo offs = true → (x.toInt < lo ∨ lo + offs.length ≤ x.toInt) → mSwT x (mSwL pc lo offs) d = d := by
  intro offs
  induction offs with
  | nil => intro lo _ _; rfl
  | cons o r ih =>
    intro lo hc hx
    simp only [mSwC, Bool.and_eq_true, decide_eq_true_eq] at hc
    simp only [List.length_cons] at hx
    have h1 : ¬ x = Int32.ofInt lo := fun z => by
      rw [z, hc.1.1] at hx
      omega
    simp only [mSwL, mSwT, if_neg h1]
    exact ih hc.2 (by omega)
theorem mSwT_in {pc : Nat} {x : Int32} {d : Nat} : ∀ {offs : List Int} {lo : Int} {o : Int}, mSwC pc lo offs = true → lo ≤ x.toInt → offs[(x.toInt - lo).toNat]? = some o → (pc : Int) + o = (mSwT x (mSwL pc lo offs) d : Int) := by
  intro offs
  induction offs with
  | nil => intro lo o _ _ h; simp at h
  | cons o1 r ih =>
    intro lo o hc hx ho
    simp only [mSwC, Bool.and_eq_true, decide_eq_true_eq] at hc
    by_cases h1 : x = Int32.ofInt lo
    · simp only [mSwL, mSwT, if_pos h1]
      have h2 : x.toInt - lo = 0 := by rw [h1, hc.1.1]; omega
      rw [h2] at ho
      simp at ho
      subst ho
      rw [Int.toNat_of_nonneg hc.1.2]
    · simp only [mSwL, mSwT, if_neg h1]
      have h2 : x.toInt ≠ lo := fun z => h1 (Int32.toInt_inj.mp (by rw [hc.1.1]; exact z))
      refine ih hc.2 (by omega) ?_
      have h3 : (x.toInt - lo).toNat = (x.toInt - (lo + 1)).toNat + 1 := by omega
      rw [h3] at ho
      simpa using ho
theorem mSwT_lk {pc : Nat} {d : Int} {x : Int32} (hd : 0 ≤ (pc : Int) + d) : ∀ {ps : List (Int × Int)}, mSwD pc ps = true → (pc : Int) + Op.lookupswitch.offset ps d x.toInt = (mSwT x (mSwM pc ps) ((pc : Int) + d).toNat : Int) := by
  intro ps
  induction ps with
  | nil => intro _; rw [show mSwT x (mSwM pc []) ((pc : Int) + d).toNat = ((pc : Int) + d).toNat from rfl, Int.toNat_of_nonneg hd]; rfl
  | cons q r ih =>
    intro hc
    simp only [mSwD, Bool.and_eq_true, decide_eq_true_eq] at hc
    obtain ⟨qa, qo⟩ := q
    rw [Op.lookupswitch.offset_cons]
    by_cases h1 : x = Int32.ofInt qa
    · have h2 : x.toInt = qa := by rw [h1]; exact hc.1.1
      simp only [mSwM, mSwT, if_pos h1, h2, if_true]
      rw [Int.toNat_of_nonneg hc.1.2]
    · have h2 : ¬ x.toInt = qa := fun z => h1 (Int32.toInt_inj.mp (by rw [hc.1.1]; exact z))
      simp only [mSwM, mSwT, if_neg h1]
      first | rw [if_neg h2] | rw [if_neg (fun z => h2 z.symm)]
      exact ih hc.2
section MS
variable {g : mG} {l : Launch} {md : mMd} {p : Program} {e : Env} {R : Room} {s : State} {m : MethodId} {args : Array Value} {below : List Frame} {meth : Method} {c : Code} {n0 t0 : Nat} {Q : State → Prop}
theorem mSw_okT (hX : mX g md p s m args meth c n0) (hok : mOkP md) {pc : Nat} {r : mRow} {L : mLs} {st t : List Value} {sp : mSh} {σ : mHp} {x : Int32} {ks : List (Int32 × Nat)} {d : Nat} (hr : mIn md.2.2.2.2.2 pc = some r) (h : mSw pc r st = some (x, ks, d, t)) (k : mM g l md p e R s m args below meth c n0 t0 Q (mSwT x ks d, L, t, sp, σ)) : mM g l md p e R s m args below meth c n0 t0 Q (pc, L, st, sp, σ) := by
  obtain ⟨hd0, -, hx0⟩ := mRow_ok hok.1 hr
  obtain ⟨ins, np, a, b, cc, v, w⟩ := r
  have hx : mRx md.2.1 (md.1.name == "<init>") pc (ins, np, a, b, cc, v, w) = true := hx0
  have hd1 : decode md.2.2.1 pc = .ok (ins, np - pc) := hd0
  clear hx0 hd0 hr
  unfold mSw at h
  simp only at h
  split at h
  · rename_i df lo hi offs
    split at h
    · rename_i y t1
      simp only [Option.some.injEq, Prod.mk.injEq] at h
      obtain ⟨h11, h12, h13, h14⟩ := h
      subst h12 h13 h14
      have h11 : x = y := h11.symm
      subst h11
      simp only [mRx, Bool.and_eq_true, decide_eq_true_eq] at hx
      obtain ⟨⟨h1, h2⟩, h3⟩ := hx
      intro hn ht H locs ls hP hS hl
      have K := k hn ht H locs ls hP hS hl
      by_cases ho : x.toInt < lo ∨ hi < x.toInt
      · have e1 := mSwT_out (x := x) (d := ((pc : Int) + df).toNat) h3 (by rw [Array.length_toList]; omega)
        rw [e1] at K
        exact lv_tableOut hX.1 hX.2.1 hd1 ho (by rw [Int.toNat_of_nonneg h2]) K
      · have hlt : (x.toInt - lo).toNat < offs.size := by omega
        have ha : offs[(x.toInt - lo).toNat]? = some offs[(x.toInt - lo).toNat] := Array.getElem?_eq_getElem hlt
        exact lv_tableIn hX.1 hX.2.1 hd1 (fun z => ho (Or.inl z)) (fun z => ho (Or.inr z)) ha (mSwT_in h3 (by omega) (by rw [Array.getElem?_toList]; exact ha)) K
    · cases h
  · rename_i df ps
    split at h
    · simp only [Option.some.injEq, Prod.mk.injEq] at h
      obtain ⟨rfl, rfl, rfl, rfl⟩ := h
      simp only [mRx, Bool.and_eq_true, decide_eq_true_eq] at hx
      obtain ⟨⟨h1, h2⟩, h3⟩ := hx
      intro hn ht H locs ls hP hS hl
      have K := k hn ht H locs ls hP hS hl
      exact lv_lookup hX.1 hX.2.1 hd1 h3 rfl (mSwT_lk h1 h2) K
    · cases h
  · cases h
set_option maxHeartbeats 4000000 in
theorem mBn_ok (hX : mX g md p s m args meth c n0) (hok : mOkP md) {pc : Nat} {r : mRow} {L : mLs} {st : List Value} {sp : mSh} {σ : mHp} {C : Prop} {c1 c2 : mCf} (hr : mIn md.2.2.2.2.2 pc = some r) (h : mBn r L st sp σ = some (C, c1, c2)) (k1 : C → mM g l md p e R s m args below meth c n0 t0 Q c1) (k2 : ¬ C → mM g l md p e R s m args below meth c n0 t0 Q c2) : mM g l md p e R s m args below meth c n0 t0 Q (pc, L, st, sp, σ) := by
  obtain ⟨hd0, -, hx0⟩ := mRow_ok hok.1 hr
  obtain ⟨ins, np, a, b, cc, v, w⟩ := r
  have hx : mRx md.2.1 (md.1.name == "<init>") pc (ins, np, a, b, cc, v, w) = true := hx0
  have hd1 : decode md.2.2.1 pc = .ok (ins, np - pc) := hd0
  clear hx0 hd0 hr
  cases ins with
  | if_icmp cd f =>
    obtain ⟨e1, e2⟩ : np = pc + 3 ∧ (pc : Int) + f = (a : Int) := by simpa [mRx, mBr] using hx
    subst e1
    have hd := mDec hd1 rfl
    clear hd1 hx
    simp only [mBn] at h
    split at h
    · cases cd <;> (simp only [Option.some.injEq, Prod.mk.injEq] at h; obtain ⟨rfl, rfl, rfl⟩ := h; intro hn ht H locs ls hP hS hl)
      all_goals first
        | exact lv_icmp_eq hX.1 hX.2.1 hd e2 (fun q => k1 q hn ht H locs ls hP hS hl) (fun q => k2 q hn ht H locs ls hP hS hl)
        | exact lv_icmp_ne hX.1 hX.2.1 hd e2 (fun q => k2 q hn ht H locs ls hP hS hl) (fun q => k1 q hn ht H locs ls hP hS hl)
        | exact lv_icmp_lt hX.1 hX.2.1 hd e2 (fun q => k1 q hn ht H locs ls hP hS hl) (fun q => k2 q hn ht H locs ls hP hS hl)
        | exact lv_icmp_ge hX.1 hX.2.1 hd e2 (fun q => k1 q hn ht H locs ls hP hS hl) (fun q => k2 q hn ht H locs ls hP hS hl)
        | exact lv_icmp_gt hX.1 hX.2.1 hd e2 (fun q => k1 q hn ht H locs ls hP hS hl) (fun q => k2 q hn ht H locs ls hP hS hl)
        | exact lv_icmp_le hX.1 hX.2.1 hd e2 (fun q => k1 q hn ht H locs ls hP hS hl) (fun q => k2 q hn ht H locs ls hP hS hl)
    · cases h
  | ifCond cd f =>
    obtain ⟨e1, e2⟩ : np = pc + 3 ∧ (pc : Int) + f = (a : Int) := by simpa [mRx, mBr] using hx
    subst e1
    have hd := mDec hd1 rfl
    clear hd1 hx
    simp only [mBn] at h
    split at h
    · cases cd <;> (simp only [Option.some.injEq, Prod.mk.injEq] at h; obtain ⟨rfl, rfl, rfl⟩ := h; intro hn ht H locs ls hP hS hl)
      all_goals first
        | exact lv_if_eq hX.1 hX.2.1 hd e2 (fun q => k1 q hn ht H locs ls hP hS hl) (fun q => k2 q hn ht H locs ls hP hS hl)
        | exact lv_if_ne hX.1 hX.2.1 hd e2 (fun q => k2 q hn ht H locs ls hP hS hl) (fun q => k1 q hn ht H locs ls hP hS hl)
        | exact lv_if_lt hX.1 hX.2.1 hd e2 (fun q => k1 q hn ht H locs ls hP hS hl) (fun q => k2 q hn ht H locs ls hP hS hl)
        | exact lv_if_ge hX.1 hX.2.1 hd e2 (fun q => k1 q hn ht H locs ls hP hS hl) (fun q => k2 q hn ht H locs ls hP hS hl)
        | exact lv_if_gt hX.1 hX.2.1 hd e2 (fun q => k1 q hn ht H locs ls hP hS hl) (fun q => k2 q hn ht H locs ls hP hS hl)
        | exact lv_if_le hX.1 hX.2.1 hd e2 (fun q => k1 q hn ht H locs ls hP hS hl) (fun q => k2 q hn ht H locs ls hP hS hl)
    · cases h
  | _ => simp [mBn] at h
end MS
end
section
/-! steps with a condition are the machine's; what is made; calls; returns -/
section MS
variable {g : mG} {l : Launch} {md : mMd} {p : Program} {e : Env} {R : Room} {s : State} {m : MethodId} {args : Array Value} {below : List Frame} {meth : Method} {c : Code} {n0 t0 : Nat} {Q : State → Prop}
theorem mIst_ok {pc q n : Nat} {i x : Int32} {r : List (Option Nat)} {L : mLs} {t : List Value} {sp : mSh} {σ : mHp} (hX : mX g md p s m args meth c n0) (hd : decode md.2.2.1 pc = .ok (.iastore, 1)) (hat : sp[q]? = some (100, n, r)) (hlt : q < 1000000) (hi : vp_in i n) (k : mM g l md p e R s m args below meth c n0 t0 Q (pc + 1, L, t, sp, mWI σ q i.toNatClampNeg x)) : mM g l md p e R s m args below meth c n0 t0 Q (pc, L, .int x :: .int i :: .ref q :: t, sp, σ) := by
  intro hn ht H locs ls hP hS hl
  show W p l e R s m args below meth c H locs _ _ Q (F0 m pc ls (.int x :: .int i :: .ref (mAl (mGh g) q) :: t.map (mE (mGh g))))
  rw [mAl_lt hlt]
  refine va_iast hX.1 hX.2.1 hX.2.2.2.2.2.1.1 hP (mWl_D g sp σ) hS q 0 (mWl_at (g := g) (σ := σ) hat) rfl hi hd (fun H1 locs1 h1 _ h3 => ?_)
  rw [mWl_set (σ' := mWI σ q i.toNatClampNeg x) rfl hat (by simp [mCell, mWI]) (fun _ _ => rfl) (fun j sh hj => mCell_WI hj)] at h1
  exact k hn ht H1 locs1 ls h1 h3 hl
theorem mIld_ok {pc q n : Nat} {i : Int32} {r : List (Option Nat)} {L : mLs} {t : List Value} {sp : mSh} {σ : mHp} (hX : mX g md p s m args meth c n0) (hd : decode md.2.2.1 pc = .ok (.iaload, 1)) (hat : sp[q]? = some (100, n, r)) (hlt : q < 1000000) (hi : vp_in i n) (k : mM g l md p e R s m args below meth c n0 t0 Q (pc + 1, L, .int (σ.1 q i.toNatClampNeg) :: t, sp, σ)) : mM g l md p e R s m args below meth c n0 t0 Q (pc, L, .int i :: .ref q :: t, sp, σ) := by
  intro hn ht H locs ls hP hS hl
  show W p l e R s m args below meth c H locs _ _ Q (F0 m pc ls (.int i :: .ref (mAl (mGh g) q) :: t.map (mE (mGh g))))
  rw [mAl_lt hlt]
  exact va_iald hX.1 hX.2.1 hX.2.2.2.2.2.1.1 hP q 0 (mWl_at (g := g) (σ := σ) hat) rfl hi hd (k hn ht H locs ls hP hS hl)
set_option maxHeartbeats 4000000 in
theorem mSd_ok (hX : mX g md p s m args meth c n0) (hok : mOkP md) {pc : Nat} {r : mRow} {L : mLs} {st : List Value} {sp : mSh} {σ : mHp} {C : Prop} {cf : mCf} (hr : mIn md.2.2.2.2.2 pc = some r) (h : mSd g r L st sp σ = some (C, cf)) (hC : C) (k : mM g l md p e R s m args below meth c n0 t0 Q cf) : mM g l md p e R s m args below meth c n0 t0 Q (pc, L, st, sp, σ) := by
  obtain ⟨hd0, -, hx0⟩ := mRow_ok hok.1 hr
  obtain ⟨ins, np, a, b, cc, v, w⟩ := r
  have hx : mRx md.2.1 (md.1.name == "<init>") pc (ins, np, a, b, cc, v, w) = true := hx0
  have hd1 : decode md.2.2.1 pc = .ok (ins, np - pc) := hd0
  clear hx0 hd0 hr
  have hK := hX.2.2.2.2.2.1.1
  cases ins with
  | iaload =>
    have e1 : np = pc + 1 := of_decide_eq_true hx
    subst e1
    have hd := mDec hd1 rfl
    clear hd1 hx
    simp only [mSd] at h
    split at h
    · split at h
      · rename_i hsp
        simp only [Option.some.injEq, Prod.mk.injEq] at h
        obtain ⟨rfl, rfl⟩ := h
        obtain ⟨h1, h2⟩ := mSpA_at hsp
        exact mIld_ok hX hd h1 h2 hC k
      · cases h
    · cases h
  | laload =>
    have e1 : np = pc + 1 := of_decide_eq_true hx
    subst e1
    have hd := mDec hd1 rfl
    clear hd1 hx
    simp only [mSd] at h
    split at h
    · rename_i i q t
      split at h
      · rename_i n r hsp
        simp only [Option.some.injEq, Prod.mk.injEq] at h
        obtain ⟨rfl, rfl⟩ := h
        obtain ⟨h1, h2⟩ := mSpA_at hsp
        intro hn ht H locs ls hP hS hl
        show W p l e R s m args below meth c H locs _ _ Q (F0 m pc ls (.int i :: .ref (mAl (mGh g) q) :: t.map (mE (mGh g))))
        rw [mAl_lt h2]
        exact va_lald hX.1 hX.2.1 hK hP q 1 (mWl_at (g := g) (σ := σ) h1) rfl hC hd (k hn ht H locs ls hP hS hl)
      · cases h
    · cases h
  | daload =>
    have e1 : np = pc + 1 := of_decide_eq_true hx
    subst e1
    have hd := mDec hd1 rfl
    clear hd1 hx
    simp only [mSd] at h
    split at h
    · rename_i i q t
      split at h
      · rename_i n r hsp
        simp only [Option.some.injEq, Prod.mk.injEq] at h
        obtain ⟨rfl, rfl⟩ := h
        obtain ⟨h1, h2⟩ := mSpA_at hsp
        intro hn ht H locs ls hP hS hl
        show W p l e R s m args below meth c H locs _ _ Q (F0 m pc ls (.int i :: .ref (mAl (mGh g) q) :: t.map (mE (mGh g))))
        rw [mAl_lt h2]
        exact va_dald hX.1 hX.2.1 hK hP q 2 (mWl_at (g := g) (σ := σ) h1) rfl hC hd (k hn ht H locs ls hP hS hl)
      · cases h
    · cases h
  | aaload =>
    have e1 : np = pc + 1 := of_decide_eq_true hx
    subst e1
    have hd := mDec hd1 rfl
    clear hd1 hx
    simp only [mSd] at h
    split at h
    · rename_i i q t
      split at h
      · rename_i n r hsp
        obtain ⟨h1, h2⟩ := mSpA_at hsp
        split at h
        · rename_i hr
          simp only [Option.some.injEq, Prod.mk.injEq] at h
          obtain ⟨rfl, rfl⟩ := h
          intro hn ht H locs ls hP hS hl
          show W p l e R s m args below meth c H locs _ _ Q (F0 m pc ls (.int i :: .ref (mAl (mGh g) q) :: t.map (mE (mGh g))))
          rw [mAl_lt h2]
          refine va_aldq hX.1 hX.2.1 hK hP q 3 (mWl_at (g := g) (σ := σ) h1) rfl hC hd ?_
          show W p l e R s m args below meth c H locs _ _ Q (F0 m (pc + 1) ls (va_rf ((r.getD i.toNatClampNeg none).map (mAl (mGh g))) :: _))
          rw [← mRn_eq, hr]
          exact k hn ht H locs ls hP hS hl
        · rename_i j hr
          simp only [Option.some.injEq, Prod.mk.injEq] at h
          obtain ⟨rfl, rfl⟩ := h
          intro hn ht H locs ls hP hS hl
          show W p l e R s m args below meth c H locs _ _ Q (F0 m pc ls (.int i :: .ref (mAl (mGh g) q) :: t.map (mE (mGh g))))
          rw [mAl_lt h2]
          refine va_aldq hX.1 hX.2.1 hK hP q 3 (mWl_at (g := g) (σ := σ) h1) rfl hC hd ?_
          show W p l e R s m args below meth c H locs _ _ Q (F0 m (pc + 1) ls (va_rf ((r.getD i.toNatClampNeg none).map (mAl (mGh g))) :: _))
          rw [← mRn_eq, hr]
          exact k hn ht H locs ls hP hS hl
      · cases h
    · cases h
  | iastore =>
    have e1 : np = pc + 1 := of_decide_eq_true hx
    subst e1
    have hd := mDec hd1 rfl
    clear hd1 hx
    simp only [mSd] at h
    split at h
    · split at h
      · rename_i hsp
        simp only [Option.some.injEq, Prod.mk.injEq] at h
        obtain ⟨rfl, rfl⟩ := h
        obtain ⟨h1, h2⟩ := mSpA_at hsp
        exact mIst_ok hX hd h1 h2 hC k
      · cases h
    · cases h
  | lastore =>
    have e1 : np = pc + 1 := of_decide_eq_true hx
    subst e1
    have hd := mDec hd1 rfl
    clear hd1 hx
    simp only [mSd] at h
    split at h
    · rename_i x i q t
      split at h
      · rename_i n r hsp
        simp only [Option.some.injEq, Prod.mk.injEq] at h
        obtain ⟨rfl, rfl⟩ := h
        obtain ⟨h1, h2⟩ := mSpA_at hsp
        intro hn ht H locs ls hP hS hl
        show W p l e R s m args below meth c H locs _ _ Q (F0 m pc ls (.long x :: .int i :: .ref (mAl (mGh g) q) :: t.map (mE (mGh g))))
        rw [mAl_lt h2]
        refine va_last hX.1 hX.2.1 hK hP (mWl_D g sp σ) hS q 1 (mWl_at (g := g) (σ := σ) h1) rfl hC hd (fun H1 locs1 g1 _ g3 => ?_)
        rw [mWl_set (σ' := mWL σ q i.toNatClampNeg x) rfl h1 (by simp [mCell, mWL]) (fun _ _ => rfl) (fun j sh hj => mCell_WL hj)] at g1
        exact k hn ht H1 locs1 ls g1 g3 hl
      · cases h
    · cases h
  | dastore =>
    have e1 : np = pc + 1 := of_decide_eq_true hx
    subst e1
    have hd := mDec hd1 rfl
    clear hd1 hx
    simp only [mSd] at h
    split at h
    · rename_i x i q t
      split at h
      · rename_i n r hsp
        simp only [Option.some.injEq, Prod.mk.injEq] at h
        obtain ⟨rfl, rfl⟩ := h
        obtain ⟨h1, h2⟩ := mSpA_at hsp
        intro hn ht H locs ls hP hS hl
        show W p l e R s m args below meth c H locs _ _ Q (F0 m pc ls (.double x :: .int i :: .ref (mAl (mGh g) q) :: t.map (mE (mGh g))))
        rw [mAl_lt h2]
        refine va_dast hX.1 hX.2.1 hK hP (mWl_D g sp σ) hS q 2 (mWl_at (g := g) (σ := σ) h1) rfl hC hd (fun H1 locs1 g1 _ g3 => ?_)
        rw [mWl_set (σ' := mWD σ q i.toNatClampNeg x) rfl h1 (by simp [mCell, mWD]) (fun _ _ => rfl) (fun j sh hj => mCell_WD hj)] at g1
        exact k hn ht H1 locs1 ls g1 g3 hl
      · cases h
    · cases h
  | putfield i =>
    simp only [mRx, Bool.and_eq_true, decide_eq_true_eq] at hx
    obtain ⟨⟨e1, e2, e3, e4⟩, e5⟩ := hx
    subst e1
    have hd := mDec hd1 rfl
    clear hd1
    simp only [mSd] at h
    split at h
    · split at h
      · rename_i x ix t
        cases hh : mHas sp ix a b with
        | false => rw [hh] at h; cases h
        | true =>
          rw [hh] at h
          simp only [cond_true, Option.some.injEq, Prod.mk.injEq] at h
          obtain ⟨rfl, rfl⟩ := h
          rw [if_pos (by decide)] at e5
          have e6 := of_decide_eq_true e5
          exact mPfI_ok (cc := 3) hX e2 e3 e4 ⟨fun _ => e6.2, fun q => absurd (by decide) q⟩ hd hh (Or.inr ⟨e6.1.symm, hC⟩) k
      · cases h
    · cases h
  | lrem =>
    have e1 : np = pc + 1 := of_decide_eq_true hx
    subst e1
    have hd := mDec hd1 rfl
    clear hd1 hx
    simp only [mSd] at h
    split at h
    · simp only [Option.some.injEq, Prod.mk.injEq] at h
      obtain ⟨rfl, rfl⟩ := h
      intro hn ht H locs ls hP hS hl
      exact lv_lrem hX.1 hX.2.1 hd hC (k hn ht H locs ls hP hS hl)
    · cases h
  | f2d =>
    have e1 : np = pc + 1 := of_decide_eq_true hx
    subst e1
    have hd := mDec hd1 rfl
    clear hd1 hx
    simp only [mSd] at h
    split at h
    · simp only [Option.some.injEq, Prod.mk.injEq] at h
      obtain ⟨rfl, rfl⟩ := h
      intro hn ht H locs ls hP hS hl
      exact lv_f2d hX.1 hX.2.1 hd hC (k hn ht H locs ls hP hS hl)
    · cases h
  | d2f =>
    have e1 : np = pc + 1 := of_decide_eq_true hx
    subst e1
    have hd := mDec hd1 rfl
    clear hd1 hx
    simp only [mSd] at h
    split at h
    · simp only [Option.some.injEq, Prod.mk.injEq] at h
      obtain ⟨rfl, rfl⟩ := h
      intro hn ht H locs ls hP hS hl
      exact lv_d2f hX.1 hX.2.1 hd hC (k hn ht H locs ls hP hS hl)
    · cases h
  | fdiv =>
    have e1 : np = pc + 1 := of_decide_eq_true hx
    subst e1
    have hd := mDec hd1 rfl
    clear hd1 hx
    simp only [mSd] at h
    split at h
    · simp only [Option.some.injEq, Prod.mk.injEq] at h
      obtain ⟨rfl, rfl⟩ := h
      intro hn ht H locs ls hP hS hl
      exact lv_fdiv hX.1 hX.2.1 hd hC (k hn ht H locs ls hP hS hl)
    · cases h
  | ddiv =>
    have e1 : np = pc + 1 := of_decide_eq_true hx
    subst e1
    have hd := mDec hd1 rfl
    clear hd1 hx
    simp only [mSd] at h
    split at h
    · simp only [Option.some.injEq, Prod.mk.injEq] at h
      obtain ⟨rfl, rfl⟩ := h
      intro hn ht H locs ls hP hS hl
      exact lv_ddiv hX.1 hX.2.1 hd hC (k hn ht H locs ls hP hS hl)
    · cases h
  | dadd =>
    have e1 : np = pc + 1 := of_decide_eq_true hx
    subst e1
    have hd := mDec hd1 rfl
    clear hd1 hx
    simp only [mSd] at h
    split at h
    · simp only [Option.some.injEq, Prod.mk.injEq] at h
      obtain ⟨rfl, rfl⟩ := h
      intro hn ht H locs ls hP hS hl
      exact lv_dadd hX.1 hX.2.1 hd hC (k hn ht H locs ls hP hS hl)
    · cases h
  | dsub =>
    have e1 : np = pc + 1 := of_decide_eq_true hx
    subst e1
    have hd := mDec hd1 rfl
    clear hd1 hx
    simp only [mSd] at h
    split at h
    · simp only [Option.some.injEq, Prod.mk.injEq] at h
      obtain ⟨rfl, rfl⟩ := h
      intro hn ht H locs ls hP hS hl
      exact lv_dsub hX.1 hX.2.1 hd hC (k hn ht H locs ls hP hS hl)
    · cases h
  | ldc i =>
    simp only [mRx, Bool.and_eq_true, decide_eq_true_eq] at hx
    obtain ⟨e1, e2⟩ := hx
    subst e1
    have hd := mDec hd1 rfl
    clear hd1
    simp only [mSd] at h
    split at h
    · simp only [Option.some.injEq, Prod.mk.injEq] at h
      obtain ⟨rfl, rfl⟩ := h
      rw [if_neg (by decide)] at e2
      obtain ⟨e3, e4⟩ := of_decide_eq_true e2
      cases hs : mStL[b]? with
      | none => rw [hs] at e4; cases e4
      | some q =>
        rw [hs] at e4
        simp at e4
        subst e4
        have hz := hX.2.2.2.2.2.1.2.1 b q hs
        have ho : s.vm.findClass RX7 = some m.cls := by
          have h9 := hX.2.2.2.1
          rw [e3] at h9
          exact h9
        intro hn ht H locs ls hP hS hl
        refine va_ldcS hX.1 hX.2.1 ho hz hd ?_
        have K := k hn ht H locs ls hP hS hl
        have e9 : mE (mGh g) (.ref (1000000 + mGs g b)) = .ref (mGs g b) := by simp only [mE, mAl]; rw [if_neg (by omega)]; simp
        have K : W p l e R s m args below meth c H locs _ _ Q (F0 m (pc + 2) ls (mE (mGh g) (.ref (1000000 + mGs g b)) :: st.map (mE (mGh g)))) := K
        rw [e9] at K
        exact K
    · cases h
  | _ => simp [mSd] at h
end MS
end
section
/-! what is made, calls, returns -/
theorem mFt_le : ∀ ci, ci < 10 → ∀ k, k < mNf ci → defaultValue (mTy ci k) = (if mFt ci k = 1 then .long 0 else if mFt ci k = 2 then .null else .int 0) := by decide +kernel
section MS
variable {g : mG} {l : Launch} {md : mMd} {p : Program} {e : Env} {R : Room} {s : State} {m : MethodId} {args : Array Value} {below : List Frame} {meth : Method} {c : Code} {n0 t0 : Nat} {Q : State → Prop}
/-- a new cell lies right behind the others -/
theorem mNewq {sp : mSh} {σ : mHp} {H1 : Heap} {q : Nat} {en : va_E} (hP : va_P (mGD g) vwCl (mWl g sp σ ++ [(q, en)]) H1) (hD : va_D (mA g) (mWl g sp σ ++ [(q, en)])) (hz : H1.size ≤ mGh g + sp.length + 1) : q = mGh g + sp.length := by
  have h1 : (mWl g sp σ ++ [(q, en)])[sp.length]? = some (q, en) := by
    rw [List.getElem?_append_right (by rw [mWl_len]; exact Nat.le_refl _), mWl_len]
    simp
  have h2 := (hP _ _ h1).lt
  have h3 : mGh g ≤ q := hD.2 _ _ h1
  have h2 : q < H1.size := h2
  rcases Nat.lt_or_ge q (mGh g + sp.length) with h | h
  · exfalso
    have hlt : q - mGh g < sp.length := by omega
    have h4 : sp[q - mGh g]? = some sp[q - mGh g] := List.getElem?_eq_getElem hlt
    have h5 : (mWl g sp σ ++ [(q, en)])[q - mGh g]? = some (mGh g + (q - mGh g), mCell g σ (q - mGh g) sp[q - mGh g]) := by
      rw [List.getElem?_append_left (by rw [mWl_len]; exact hlt)]
      exact mWl_at h4
    have h6 := hD.1 _ _ _ _ h1 h5 (by show q = mGh g + (q - mGh g); omega)
    omega
  · omega
theorem mTot_app (sp : mSh) (x : Nat × Nat × List (Option Nat)) : mTot (sp ++ [x]) = mTot sp + x.2.1 := by simp [mTot]
theorem mA_of (hX : mX g md p s m args meth c n0) : ∀ q : Nat, s.heap.size ≤ q → mA g q := fun q h => by
  have := hX.2.2.2.2.2.2.2.2.1
  show mGh g ≤ q
  omega
theorem mNewa_ok (hX : mX g md p s m args meth c n0) (hok : mOkP md) {pc np a b cc N : Nat} {v : Int32} {w : Int64} {ty : Jvm.ClassFile.ArrayType} {L : mLs} {t : List Value} {sp : mSh} {σ : mHp} (hr : mIn md.2.2.2.2.2 pc = some (.newarray ty, np, a, b, cc, v, w)) (hN : N ≤ 1000000) (hRc : sp.length + 1 - n0 ≤ R.cells) (hRs : mTot sp + N - t0 ≤ R.slots) (hlt : sp.length < 1000000) (k : mM g l md p e R s m args below meth c n0 t0 Q (np, L, .ref sp.length :: t, sp ++ [(a, N, [])], mNew σ sp.length)) : mM g l md p e R s m args below meth c n0 t0 Q (pc, L, .int (nI N) :: t, sp, σ) := by
  obtain ⟨hd0, -, hx0⟩ := mRow_ok hok.1 hr
  have hK := hX.2.2.2.2.2.1.1
  intro hn ht H locs ls hP hS hl
  have hn : n0 ≤ sp.length := hn
  have ht : t0 ≤ mTot sp := ht
  have main : ∀ (kd : Nat) (fty : FieldType) (a0 : vp_A) (i0 : Nat), a = kd → np = pc + 2 → newarray.typeOf ty = fty → Cond.arrayClass fty ∈ mTB → (∀ cA : ClassId, vp_cell cA a0 = arrV cA N (fun _ => defaultValue fty)) → N * componentBytes fty ≤ 536870912 → (mTys g)[i0]? = some (mGc g i0, fty) → (∀ (cA : ClassId), va_RA s cA fty → va_RA s (mGc g i0) fty → cA = mGc g i0) → mCell g (mNew σ sp.length) sp.length (kd, N, []) = .inl (mGc g i0, a0) → W p l e R s m args below meth c H locs (sp.length - n0) (mTot sp - t0) Q (F0 m pc ls (.int (nI N) :: t.map (mE (mGh g)))) := by
    intro kd fty a0 i0 ea enp ety hin ha0 hby hty0 hRA hce
    subst ea
    subst enp
    have hd : decode md.2.2.1 pc = .ok (.newarray ty, 2) := mDec hd0 rfl
    refine va_newa (atype := ty) hX.1 hX.2.1 (by rw [ety]; exact hX.2.2.2.2.1 _ hin) ety hK hP (mWl_D g sp σ) hS (mA_of hX) ha0 (nI_pos (by omega)) (nI_clamp (by omega)) hby (by omega) (by omega) hd (fun q cA H1 hK1 hP1 hD1 hS1 => ?_)
    intro T1 hT1 X1
    have hz : H1.size ≤ mGh g + sp.length + 1 := by
      have h1 := X1.heapSize
      rw [hT1, hX.2.2.2.2.2.2.2.2.1] at h1
      omega
    have hq := mNewq hP1 hD1 hz
    have hcA : cA = mGc g i0 := by
      have h1 : (mTys g ++ [(cA, fty)])[4]? = some (cA, fty) := rfl
      exact hRA cA (hK1.2 4 _ h1).2 (hK.2 i0 _ hty0).2
    subst hcA
    subst hq
    rw [mWl_push (sh := (a, N, [])) (σ' := mNew σ sp.length) hce (fun j sh hj => mCell_New hj)] at hP1
    have K := k (by show n0 ≤ (sp ++ [(a, N, [])]).length; simp; omega) (by show t0 ≤ mTot (sp ++ [(a, N, [])]); rw [mTot_app]; omega) H1 locs ls hP1 hS1 hl
    have K : W p l e R s m args below meth c H1 locs ((sp ++ [(a, N, [])]).length - n0) (mTot (sp ++ [(a, N, [])]) - t0) Q (F0 m (pc + 2) ls (.ref (mAl (mGh g) sp.length) :: t.map (mE (mGh g)))) := K
    rw [mAl_lt hlt, mTot_app, List.length_append, show sp.length + [(a, N, ([] : List (Option Nat)))].length - n0 = sp.length - n0 + 1 by simp; omega, show mTot sp + (a, N, ([] : List (Option Nat))).2.1 - t0 = mTot sp - t0 + N by show mTot sp + N - t0 = _; omega] at K
    exact K T1 hT1 X1
  cases ty with
  | int =>
    simp only [mRx, Bool.and_eq_true, decide_eq_true_eq] at hx0
    obtain ⟨h1, h2⟩ := hx0
    split at h2 <;> simp at h2
    all_goals first
      | exact main 100 .int (N, .inl (fun _ => 0)) 0 rfl h1 rfl (mAr_in _ (by decide)) (fun cA => rfl) (by simp [componentBytes]; omega) rfl (fun cA x1 x2 => Option.some.inj (x1.symm.trans x2)) (by simp [mCell, mNew])
      | contradiction
  | long =>
    simp only [mRx, Bool.and_eq_true, decide_eq_true_eq] at hx0
    obtain ⟨h1, h2⟩ := hx0
    split at h2 <;> simp at h2
    all_goals first
      | exact main 101 .long (N, .inr (.inl (fun _ => 0))) 1 rfl h1 rfl (mAr_in _ (by decide)) (fun cA => rfl) (by simp [componentBytes]; omega) rfl (fun cA x1 x2 => Option.some.inj (x1.symm.trans x2)) (by simp [mCell, mNew])
      | contradiction
  | double =>
    simp only [mRx, Bool.and_eq_true, decide_eq_true_eq] at hx0
    obtain ⟨h1, h2⟩ := hx0
    split at h2 <;> simp at h2
    all_goals first
      | exact main 102 .double (N, .inr (.inr (.inr (.inl (fun _ => 0))))) 2 rfl h1 rfl (mAr_in _ (by decide)) (fun cA => rfl) (by simp [componentBytes]; omega) rfl (fun cA x1 x2 => Option.some.inj (x1.symm.trans x2)) (by simp [mCell, mNew])
      | contradiction
  | _ =>
    simp only [mRx, Bool.and_eq_true, decide_eq_true_eq] at hx0
    obtain ⟨h1, h2⟩ := hx0
    cases h2
theorem mNewo_ok (hX : mX g md p s m args meth c n0) (hok : mOkP md) {pc np a b cc i : Nat} {v : Int32} {w : Int64} {L : mLs} {st : List Value} {sp : mSh} {σ : mHp} (hr : mIn md.2.2.2.2.2 pc = some (.new i, np, a, b, cc, v, w)) (hRc : sp.length + 1 - n0 ≤ R.cells) (hRs : mTot sp + b - t0 ≤ R.slots) (hlt : sp.length < 1000000) (k : mM g l md p e R s m args below meth c n0 t0 Q (np, L, .ref sp.length :: st, sp ++ [(a, b, List.replicate b none)], mNew σ sp.length)) : mM g l md p e R s m args below meth c n0 t0 Q (pc, L, st, sp, σ) := by
  obtain ⟨hd0, -, hx0⟩ := mRow_ok hok.1 hr
  have hK := hX.2.2.2.2.2.1.1
  simp only [mRx, decide_eq_true_eq] at hx0
  obtain ⟨e1, e2, e3, e4, e5⟩ := hx0
  subst e1
  have hd : decode md.2.2.1 pc = .ok (.new i, 3) := mDec hd0 rfl
  obtain ⟨q, hq, hqm, hqn, hqd⟩ := mCl_of e3
  have hqc : q.1 = mCn a := by
    match a, e3, hq with
    | 0, _, hq => cases hq; rfl
    | 1, _, hq => cases hq; rfl
    | 2, _, hq => cases hq; rfl
    | 3, _, hq => cases hq; rfl
    | 4, _, hq => cases hq; rfl
    | 5, _, hq => cases hq; rfl
    | 6, _, hq => cases hq; rfl
    | 7, _, hq => cases hq; rfl
    | 8, _, hq => cases hq; rfl
    | 9, _, hq => cases hq; rfl
  intro hn ht H locs ls hP hS hl
  have hn : n0 ≤ sp.length := hn
  have ht : t0 ≤ mTot sp := ht
  have hbn : q.2.2 = b := by rw [hqn, e4]
  show W p l e R s m args below meth c H locs (sp.length - n0) (mTot sp - t0) Q (F0 m pc ls (st.map (mE (mGh g))))
  refine va_new (ci := a) (fs := mFs (mGh g) (mNew σ sp.length) sp.length (a, b, List.replicate b none)) (C := q.1) (T := q.2.1) (N := q.2.2) hX.1 hX.2.1 hX.2.2.2.2.1 (mLay_tb q hqm) (mTy a) (mTy_ok hq) hX.2.2.2.1 (by rw [hqc]; exact hX.2.2.2.2.1 _ (mCL_in _ e2)) (hX.2.2.2.2.1 _ (mIn_tb (q.1, q.2.2) (List.mem_map_of_mem hqm))) (by rw [hqc]; exact hX.2.2.2.2.1 _ (mNv_in _ e5)) hK hP (mWl_D g sp σ) hS (mA_of hX) hq (fun j hj => ?_) (by omega) (by rw [hbn]; omega) hd (fun x H1 hP1 hD1 hS1 => ?_)
  · rw [mFt_le a e3 j (by rw [← hqn]; exact hj)]
    have hjb : j < b := by rw [← hbn]; exact hj
    have h1 : (mFs (mGh g) (mNew σ sp.length) sp.length (a, b, List.replicate b none))[j]? = _ := mFs_at (sh := (a, b, List.replicate b none)) hjb
    simp only [vp_V, List.getD_eq_getElem?_getD, h1, Option.getD_some]
    have h2 : (List.replicate b (none : Option Nat))[j]?.getD none = none := by
      rw [List.getElem?_replicate]; split <;> rfl
    by_cases c1 : mFt a j = 1
    · simp [mFv, mNew, c1]
    · by_cases c2 : mFt a j = 2
      · simp [mFv, c2, h2, va_rf]
      · simp [mFv, mNew, c1, c2]
  · intro T1 hT1 X1
    have hz : H1.size ≤ mGh g + sp.length + 1 := by
      have h1 := X1.heapSize
      rw [hT1, hX.2.2.2.2.2.2.2.2.1] at h1
      omega
    have hx := mNewq hP1 hD1 hz
    subst hx
    rw [mWl_push (sh := (a, b, List.replicate b none)) (σ' := mNew σ sp.length) (mCell_obj e3) (fun j sh hj => mCell_New hj)] at hP1
    have K := k (by show n0 ≤ (sp ++ [(a, b, List.replicate b none)]).length; simp; omega) (by show t0 ≤ mTot (sp ++ [(a, b, List.replicate b none)]); rw [mTot_app]; omega) H1 locs ls hP1 hS1 hl
    have K : W p l e R s m args below meth c H1 locs ((sp ++ [(a, b, List.replicate b none)]).length - n0) (mTot (sp ++ [(a, b, List.replicate b none)]) - t0) Q (F0 m (pc + 3) ls (.ref (mAl (mGh g) sp.length) :: st.map (mE (mGh g)))) := K
    rw [mAl_lt hlt, mTot_app, List.length_append, show sp.length + [(a, b, List.replicate b (none : Option Nat))].length - n0 = sp.length - n0 + 1 by simp; omega, show mTot sp + (a, b, List.replicate b (none : Option Nat)).2.1 - t0 = mTot sp - t0 + q.2.2 by show mTot sp + b - t0 = _; omega] at K
    exact K T1 hT1 X1
theorem mNewq_ok (hX : mX g md p s m args meth c n0) (hok : mOkP md) {pc np a b cc i N : Nat} {v : Int32} {w : Int64} {L : mLs} {t : List Value} {sp : mSh} {σ : mHp} (hr : mIn md.2.2.2.2.2 pc = some (.anewarray i, np, a, b, cc, v, w)) (hN : N ≤ 1000000) (hRc : sp.length + 1 - n0 ≤ R.cells) (hRs : mTot sp + N - t0 ≤ R.slots) (hlt : sp.length < 1000000) (k : mM g l md p e R s m args below meth c n0 t0 Q (np, L, .ref sp.length :: t, sp ++ [(103, N, List.replicate N none)], mNew σ sp.length)) : mM g l md p e R s m args below meth c n0 t0 Q (pc, L, .int (nI N) :: t, sp, σ) := by
  obtain ⟨hd0, -, hx0⟩ := mRow_ok hok.1 hr
  have hK := hX.2.2.2.2.2.1.1
  simp only [mRx, decide_eq_true_eq] at hx0
  obtain ⟨e1, e2⟩ := hx0
  subst e1
  have hd : decode md.2.2.1 pc = .ok (.anewarray i, 3) := mDec hd0 rfl
  intro hn ht H locs ls hP hS hl
  have hn : n0 ≤ sp.length := hn
  have ht : t0 ≤ mTot sp := ht
  show W p l e R s m args below meth c H locs (sp.length - n0) (mTot sp - t0) Q (F0 m pc ls (.int (nI N) :: t.map (mE (mGh g))))
  refine va_newq (C := RX5) hX.1 hX.2.1 hX.2.2.2.1 (hX.2.2.2.2.1 _ (mCL_in _ e2)) hX.2.2.2.2.2.1.2.2.2 hK hP (mWl_D g sp σ) hS (mA_of hX) (nI_pos (by omega)) (nI_clamp (by omega)) (by omega) (by omega) (by omega) hd (fun q cA H1 hK1 hP1 hD1 hS1 => ?_)
  intro T1 hT1 X1
  have hz : H1.size ≤ mGh g + sp.length + 1 := by
    have h1 := X1.heapSize
    rw [hT1, hX.2.2.2.2.2.2.2.2.1] at h1
    omega
  have hq := mNewq hP1 hD1 hz
  have hcA : cA = mGc g 3 := by
    have h1 : (mTys g ++ [(cA, FieldType.object RX5)])[4]? = some (cA, .object RX5) := rfl
    have h2 : (mTys g)[3]? = some (mGc g 3, .object RX5) := rfl
    obtain ⟨_, _, _, _, _, x1⟩ := (hK1.2 4 _ h1).2
    obtain ⟨_, _, _, _, _, x2⟩ := (hK.2 3 _ h2).2
    exact Option.some.inj (x1.symm.trans x2)
  subst hcA
  subst hq
  rw [mWl_push (sh := (103, N, List.replicate N none)) (σ' := mNew σ sp.length) (by
    simp only [mCell]
    rw [if_neg (by decide), if_neg (by decide), if_neg (by decide), if_pos trivial]
    congr 7
    funext j
    have h2 : (List.replicate N (none : Option Nat)).getD j none = none := by
      rw [List.getD_eq_getElem?_getD, List.getElem?_replicate]; split <;> rfl
    rw [h2]; rfl) (fun j sh hj => mCell_New hj)] at hP1
  have K := k (by show n0 ≤ (sp ++ [(103, N, List.replicate N none)]).length; simp; omega) (by show t0 ≤ mTot (sp ++ [(103, N, List.replicate N none)]); rw [mTot_app]; omega) H1 locs ls hP1 hS1 hl
  have K : W p l e R s m args below meth c H1 locs ((sp ++ [(103, N, List.replicate N none)]).length - n0) (mTot (sp ++ [(103, N, List.replicate N none)]) - t0) Q (F0 m (pc + 3) ls (.ref (mAl (mGh g) sp.length) :: t.map (mE (mGh g)))) := K
  rw [mAl_lt hlt, mTot_app, List.length_append, show sp.length + [(103, N, List.replicate N (none : Option Nat))].length - n0 = sp.length - n0 + 1 by simp; omega, show mTot sp + (103, N, List.replicate N (none : Option Nat)).2.1 - t0 = mTot sp - t0 + N by show mTot sp + N - t0 = _; omega] at K
  exact K T1 hT1 X1
/-- a reference is put into the array of slots -/
theorem mAst_ok (hX : mX g md p s m args meth c n0) (hok : mOkP md) {pc np a b cc q j n n2 : Nat} {v i : Int32} {w : Int64} {r r2 : List (Option Nat)} {L : mLs} {t : List Value} {sp : mSh} {σ : mHp} {cf : mCf} (hr : mIn md.2.2.2.2.2 pc = some (.aastore, np, a, b, cc, v, w)) (hat : sp[q]? = some (103, n, r)) (hlt : q < 1000000) (hat2 : sp[j]? = some (5, n2, r2)) (hlt2 : j < 1000000) (hi : vp_in i n) (h : mSpS sp q i.toNatClampNeg (some j) (fun sp1 => some (np, L, t, sp1, σ)) = some cf) (k : mM g l md p e R s m args below meth c n0 t0 Q cf) : mM g l md p e R s m args below meth c n0 t0 Q (pc, L, .ref j :: .int i :: .ref q :: t, sp, σ) := by
  obtain ⟨hd0, -, hx0⟩ := mRow_ok hok.1 hr
  have hK := hX.2.2.2.2.2.1.1
  have e1 : np = pc + 1 := of_decide_eq_true hx0
  subst e1
  have hd : decode md.2.2.1 pc = .ok (.aastore, 1) := mDec hd0 rfl
  obtain ⟨sh, g1, g2, g3⟩ := mSpS_spec h
  rw [hat] at g1
  cases g1
  cases g3
  intro hn ht H locs ls hP hS hl
  show W p l e R s m args below meth c H locs _ _ Q (F0 m pc ls (.ref (mAl (mGh g) j) :: .int i :: .ref (mAl (mGh g) q) :: t.map (mE (mGh g))))
  rw [mAl_lt hlt, mAl_lt hlt2]
  have hj := mWl_at (g := g) (σ := σ) hat2
  rw [mCell_obj (by decide)] at hj
  have hlq : q < sp.length := (List.getElem?_eq_some_iff.mp hat).1
  refine va_astq (ci := 5) (r := (RX5, TX5, 5)) hX.1 hX.2.1 hK hP (mWl_D g sp σ) hS q 3 j (mWl_at (g := g) (σ := σ) hat) rfl hj rfl hi hd (fun H1 locs1 h1 _ h3 => ?_)
  rw [mWl_set (sp' := sp.set q (103, n, r.set i.toNatClampNeg (some j))) (σ' := σ) (sh := (103, n, r.set i.toNatClampNeg (some j))) (by simp) (by simp [hlq]) (by
    simp only [mCell]
    rw [if_neg (by decide), if_neg (by decide), if_neg (by decide), if_pos trivial]
    congr 7
    funext x
    by_cases hx : x = i.toNatClampNeg
    · subst hx
      rw [List.getD_eq_getElem?_getD, List.getElem?_set_self g2]
      simp [va_up, mAl_lt hlt2]
    · rw [List.getD_eq_getElem?_getD, List.getElem?_set_ne (fun z => hx z.symm), ← List.getD_eq_getElem?_getD]
      simp [va_up, hx]) (fun x hx => List.getElem?_set_ne (fun z => hx z.symm)) (fun _ _ _ => rfl)] at h1
  have K := k (by show n0 ≤ (sp.set q (103, n, r.set i.toNatClampNeg (some j))).length; simpa using hn) (by show t0 ≤ mTot (sp.set q (103, n, r.set i.toNatClampNeg (some j))); rw [mTot_set hat]; exact ht) H1 locs1 ls h1 h3 hl
  have K : W p l e R s m args below meth c H1 locs1 ((sp.set q (103, n, r.set i.toNatClampNeg (some j))).length - n0) (mTot (sp.set q (103, n, r.set i.toNatClampNeg (some j))) - t0) Q (F0 m (pc + 1) ls (t.map (mE (mGh g)))) := K
  rw [mTot_set hat, List.length_set] at K
  exact K
/-- Object's constructor -/
theorem mObj_ok (hX : mX g md p s m args meth c n0) (hok : mOkP md) {pc np b cc i ix : Nat} {v : Int32} {w : Int64} {L : mLs} {sp : mSh} {σ : mHp} (hr : mIn md.2.2.2.2.2 pc = some (.invokespecial i, np, 1010, b, cc, v, w)) (hl0 : Cond.methodLink (mCn md.2.1) i Lib.objectInit ∈ mTB) (hR : 1 ≤ R.frames) (hR2 : 41 ≤ R.locals) (k : mM g l md p e R s m args below meth c n0 t0 Q (np, L, [], sp, σ)) : mM g l md p e R s m args below meth c n0 t0 Q (pc, L, [.ref ix], sp, σ) := by
  obtain ⟨hd0, -, hx0⟩ := mRow_ok hok.1 hr
  have e1 : np = pc + 3 := by
    simp only [mRx, Bool.and_eq_true, decide_eq_true_eq] at hx0
    exact hx0.1
  subst e1
  have hd : decode md.2.2.1 pc = .ok (.invokespecial i, 3) := mDec hd0 rfl
  intro hn ht H locs ls hP hS hl
  have K := k hn ht H locs ls hP hS hl
  exact W.objInit hX.1 hX.2.1 hX.2.2.2.1 (hX.2.2.2.2.1 _ hl0) (hX.2.2.2.2.1 _ mObj_in.1) (hX.2.2.2.2.1 _ mObj_in.2) rfl (by rw [hX.2.2.1]; exact hl.2.1) rfl hd hR (by show 2 * 0 + (([] : List Value).map fun v => v.category).sum + 12 ≤ R.locals; simp; omega) K
end MS
end
section
/-! calls and returns; the judgement 'from here the method returns, and then ..' -/
def mRm (d n t : Nat) : Room := { frames := d, cells := n, slots := t, locals := 41 * d }
def mWs (a : Nat) : List Cond := mCoC (mD a) :: mTB
def mPre (g : mG) (as : List Value) (sp : mSh) (σ : mHp) : Array Value → State → Prop := va_Pc (as.map (mE (mGh g))) (fun U => U.heap.size = mGh g + sp.length ∧ (∀ q : Nat, q < mGh g → U.heap[q]? = (mGH g)[q]?) ∧ mP g sp σ U.heap ∧ mK g U)
def mPost (g : mG) (r : Option Value) (sp : mSh) (σ : mHp) : Array Value → State → Outcome → State → Prop := fun _ st oc t => oc = .returned (r.map (mE (mGh g))) ∧ mP g sp σ t.heap ∧ va_F (mA g) st t
/-- method number a, called with as at (sp, σ), with d frames below it, answers r and leaves (sp1, σ1) -/
def mEv (g : mG) (l : Launch) (d a : Nat) (as : List Value) (sp : mSh) (σ : mHp) (r : Option Value) (sp1 : mSh) (σ1 : mHp) : Prop :=
  sp.length ≤ sp1.length ∧ mTot sp ≤ mTot sp1 ∧ Met l (mD a).1 (mWs a) (mRm d (sp1.length - sp.length) (mTot sp1 - mTot sp)) (mPre g as sp σ) (mPost g r sp1 σ1) (sp1.length - sp.length) (mTot sp1 - mTot sp) (mA g)
/-- the arguments are taken from the stack -/
def mTk {β : Type} : Nat → List Value → List Value → (List Value → List Value → Option β) → Option β
  | 0, st, acc, k => k acc st
  | n + 1, v :: t, acc, k => mTk n t (v :: acc) k
  | _ + 1, [], _, _ => none
theorem mTk_spec {β : Type} : ∀ {n : Nat} {st acc : List Value} {k : List Value → List Value → Option β} {b : β}, mTk n st acc k = some b → ∃ xs t, xs.length = n ∧ st = xs ++ t ∧ k (xs.reverse ++ acc) t = some b := by
  intro n
  induction n with
  | zero => intro st acc k b h; exact ⟨[], st, rfl, rfl, h⟩
  | succ n ih =>
    intro st acc k b h
    cases st with
    | nil => simp [mTk] at h
    | cons v t =>
      obtain ⟨xs, t1, h1, h2, h3⟩ := ih h
      exact ⟨v :: xs, t1, by simp [h1], by simp [h2], by simpa using h3⟩
def mCs : List Value → Nat
  | [] => 0
  | v :: t => v.category + mCs t
theorem mCs_eq (h : Nat) : ∀ t : List Value, ((t.map (mE h)).map fun v => v.category).sum = mCs t := by
  intro t
  induction t with
  | nil => rfl
  | cons v t ih => simp [mCs, mE_cat, ← ih]
/-- a call: the method's number, its arguments, the rest of the stack -/
def mCl (r : mRow) (st : List Value) (sp : mSh) : Option (Nat × List Value × List Value) := match r with
  | (ins, _, a, b, c, _, _) => match ins with
    | .invokevirtual _ => bif Nat.blt a 1000 then mTk b st [] (fun as t => bif Nat.ble (mCs t) 8 then (match as with
      | .ref i :: _ => (match mSpA sp i with
        | some (ci, _, _) => bif Nat.beq ci c && Nat.blt c 10 then some (a, as, t) else none
        | none => none)
      | _ => none) else none) else none
    | .invokestatic _ => bif Nat.blt a 1000 then mTk b st [] (fun as t => bif Nat.ble (mCs t) 8 then some (a, as, t) else none) else none
    | .invokespecial _ => bif Nat.blt a 1000 then mTk b st [] (fun as t => bif Nat.ble (mCs t) 8 then (match as with
      | .ref _ :: _ => some (a, as, t)
      | _ => none) else none) else none
    | _ => none
def mPu (r : Option Value) (t : List Value) : List Value := match r with
  | none => t
  | some v => v :: t
section MS
variable {g : mG} {l : Launch} {md : mMd} {p : Program} {e : Env} {R : Room} {s : State} {m : MethodId} {args : Array Value} {below : List Frame} {meth : Method} {c : Code} {n0 t0 : Nat} {Q : State → Prop}
theorem mCallW {H : Heap} {locs : List Loc} {cells slots mc ms pc : Nat} {ls : Array Slot} {st0 rest : List Value} {Qa : State → Outcome → State → Prop} {free : Addr → Prop} (hr : va_Run p l e R s m args below meth c H locs cells slots mc ms (F0 m pc ls st0) rest Qa free) (kk : ∀ (v : Option Value) (st₀ t : State) (L : List Loc), st₀.heap = H → Qa st₀ (.returned v) t → (∀ q ∈ L, free q.base) → W p l e R s m args below meth c t.heap (locs ++ L) (cells + mc) (slots + ms) Q (F0 m (pc + 3) ls (v.toList ++ rest))) : W p l e R s m args below meth c H locs cells slots Q (F0 m pc ls st0) := by
  intro T hT X
  obtain ⟨v, st₀, t, T', L, h0, X', hL, e1, e2, hq, st⟩ := hr T hT X
  obtain ⟨t2, a1, b1⟩ := kk v st₀ t L h0 hq hL T' e1 X'
  exact ⟨t2, st t2 a1, b1⟩
theorem mCoW {a : Nat} : mWs a = Cond.code (mD a).1 (mD a).2.2.1 (mD a).2.2.2.1 (mD a).2.2.2.2.1 :: mTB := rfl
theorem mGood {a : Nat} (h : a < mdL.length) : GoodIn mTB (mWs a) := by
  intro w hw
  rcases List.mem_cons.mp hw with rfl | hw
  · exact mTB_good _ (mCo_in _ (mD_mem h))
  · exact mTB_good _ hw
theorem mBlind {as : List Value} {sp : mSh} {σ : mHp} : FrameBlind (mPre g as sp σ) := by
  intro a U g0 mk q
  obtain ⟨q0, q1, q2, q3, q4⟩ := q
  exact ⟨q0, q1, q2, q3, mK.same rfl q4⟩
theorem mMdD {a : Nat} (h : a < mdL.length) : (mD a).1.cls = mCn (mD a).2.1 ∧ plainFor (mD a).1 = true ∧ ((mD a).1.cls ≠ "java/lang/invoke/MethodHandle" ∧ (mD a).1.cls ≠ "java/lang/invoke/VarHandle") := by
  have h1 := mOk_all _ (mD_mem h)
  simp only [mMdOk, Bool.and_eq_true, decide_eq_true_eq] at h1
  exact ⟨h1.1.1.2, h1.1.2, h1.2⟩
/-- what comes behind a call, of whatever kind -/
theorem mCallK {pc np : Nat} {H : Heap} {locs : List Loc} {ls : Array Slot} {L : mLs} {t st0 : List Value} {sp sp1 : mSh} {σ1 : mHp} {r : Option Value} (hX : mX g md p s m args meth c n0) (enp : np = pc + 3) (hlen : sp.length ≤ sp1.length) (htot : mTot sp ≤ mTot sp1) (hn : n0 ≤ sp.length) (ht : t0 ≤ mTot sp) (hS : va_S (mA g) s.heap H locs) (hl : mLoc (mGh g) ls md.2.2.2.1 L) {Aa : Array Value}
    (hr : va_Run p l e R s m args below meth c H locs (sp.length - n0) (mTot sp - t0) (sp1.length - sp.length) (mTot sp1 - mTot sp) (F0 m pc ls st0) (t.map (mE (mGh g))) (mPost g r sp1 σ1 Aa) (mA g)) (k : mM g l md p e R s m args below meth c n0 t0 Q (np, L, mPu r t, sp1, σ1)) : W p l e R s m args below meth c H locs (sp.length - n0) (mTot sp - t0) Q (F0 m pc ls st0) := by
  subst enp
  refine mCallW hr (fun v st₀ t1 L1 h0 hq hL => ?_)
  obtain ⟨h1, h2, h3⟩ := hq
  have hv : v = r.map (mE (mGh g)) := by cases h1; rfl
  subst hv
  have hS1 : va_S (mA g) s.heap t1.heap (locs ++ L1) := by
    refine ⟨Nat.le_trans hS.1 (by rw [← h0]; exact h3.1), fun q hq1 hq2 => ?_, fun q hq => ?_⟩
    · rw [h3.2 q (by rw [h0]; exact Nat.lt_of_lt_of_le hq1 hS.1) hq2, h0]
      exact hS.2.1 q hq1 hq2
    · rcases List.mem_append.mp hq with h | h
      · exact hS.2.2 q h
      · exact hL q h
  have K := k (by show n0 ≤ sp1.length; omega) (by show t0 ≤ mTot sp1; omega) t1.heap (locs ++ L1) ls h2 hS1 hl
  have K : W p l e R s m args below meth c t1.heap (locs ++ L1) (sp1.length - n0) (mTot sp1 - t0) Q (F0 m (pc + 3) ls ((mPu r t).map (mE (mGh g)))) := K
  have e1 : sp.length - n0 + (sp1.length - sp.length) = sp1.length - n0 := by omega
  have e2 : mTot sp - t0 + (mTot sp1 - mTot sp) = mTot sp1 - t0 := by omega
  rw [e1, e2]
  cases r <;> exact K
set_option maxHeartbeats 4000000 in
theorem mCl_ok (hX : mX g md p s m args meth c n0) (hok : mOkP md) {pc np a a0 b cc d : Nat} {ins : Jvm.ClassFile.Instr} {v : Int32} {w : Int64} {L : mLs} {st as t : List Value} {sp sp1 : mSh} {σ σ1 : mHp} {r : Option Value} (hr : mIn md.2.2.2.2.2 pc = some (ins, np, a0, b, cc, v, w)) (h : mCl (ins, np, a0, b, cc, v, w) st sp = some (a, as, t)) (hev : mEv g l d a as sp σ r sp1 σ1) (hR : d + 1 ≤ R.frames) (hR2 : 41 * (d + 1) ≤ R.locals) (hRc : sp1.length - n0 ≤ R.cells) (hRs : mTot sp1 - t0 ≤ R.slots) (k : mM g l md p e R s m args below meth c n0 t0 Q (np, L, mPu r t, sp1, σ1)) : mM g l md p e R s m args below meth c n0 t0 Q (pc, L, st, sp, σ) := by
  obtain ⟨hd0, -, hx0⟩ := mRow_ok hok.1 hr
  obtain ⟨hlen, htot, hM⟩ := hev
  intro hn ht H locs ls hP hS hl T hT X
  have hn : n0 ≤ sp.length := hn
  have ht : t0 ≤ mTot sp := ht
  have X : Stand p l e R s m args below meth c T locs (sp.length - n0) (mTot sp - t0) := X
  have hsz : H.size = mGh g + sp.length := by
    have h1 := X.heapSize
    rw [hT, hX.2.2.2.2.2.2.2.2.1] at h1
    have h2 := mP_le hP (by have := hS.1; rw [hX.2.2.2.2.2.2.2.2.1] at this; omega)
    have h2 : mGh g + sp.length ≤ H.size := h2
    omega
  have hpre : ∀ U : State, U.heap = H → s.WarmedH U.vm → mPre g as sp σ (as.map (mE (mGh g))).toArray U := by
    intro U hU hW
    refine ⟨rfl, by rw [hU]; exact hsz, fun q hq => ?_, by rw [hU]; exact hP, mK.warm hW hX.2.2.2.2.2.1⟩
    rw [hU, hS.2.1 q (by rw [hX.2.2.2.2.2.2.2.2.1]; omega) (by show ¬ mGh g ≤ q; omega)]
    exact hX.2.2.2.2.2.2.2.2.2.1 q hq
  have hfix : CallFix p m c md.2.2.1 md.2.2.2.1 s args mTB (mCn md.2.1) := ⟨hX.1, hX.2.1, hX.2.2.1, hX.2.2.2.1, hX.2.2.2.2.1⟩
  have hf : sp.length - n0 + (sp1.length - sp.length) ≤ R.cells ∧ mTot sp - t0 + (mTot sp1 - mTot sp) ≤ R.slots := by constructor <;> omega
  have hms : ∀ {tt : List Value}, mCs tt ≤ 8 → 2 * (F0 m pc ls (st.map (mE (mGh g)))).monitorRoom + ((tt.map (mE (mGh g))).map fun v => v.category).sum ≤ 8 := by
    intro tt htt
    show 2 * 0 + _ ≤ 8
    rw [mCs_eq]
    omega
  cases ins with
  | invokevirtual i =>
    simp only [mRx, Bool.and_eq_true, decide_eq_true_eq] at hx0
    obtain ⟨e1, e2⟩ := hx0
    have hd : decode md.2.2.1 pc = .ok (.invokevirtual i, 3) := mDec hd0 e1
    unfold mCl at h
    simp only at h
    cases hb : Nat.blt a0 1000 with
    | false => rw [hb] at h; cases h
    | true =>
      rw [hb] at h
      obtain ⟨xs, t1, h1, h2, h3⟩ := mTk_spec h
      simp only [List.append_nil] at h3
      cases hc : Nat.ble (mCs t1) 8 with
      | false => rw [hc] at h3; cases h3
      | true =>
        rw [hc] at h3
        simp only [cond_true] at h3
        split at h3
        · rename_i ix As hxs
          split at h3
          · rename_i ci n1 r1 hsp
            cases hci : (Nat.beq ci cc && Nat.blt cc 10) with
            | false => rw [hci] at h3; cases h3
            | true =>
              rw [hci] at h3
              simp only [cond_true, Option.some.injEq, Prod.mk.injEq] at h3
              obtain ⟨rfl, rfl, rfl⟩ := h3
              rw [if_pos (by simpa [Nat.blt_eq] using hb)] at e2
              obtain ⟨f1, f2, f3, f4, f5, f6, f7, f8, f9⟩ := of_decide_eq_true e2
              simp only [Bool.and_eq_true] at hci
              have ecc : ci = cc := Nat.eq_of_beq_eq_true hci.1
              have hcc10 : cc < 10 := by simpa [Nat.blt_eq] using hci.2
              subst ecc
              obtain ⟨hat, hlt⟩ := mSpA_at hsp
              obtain ⟨m1, m2, m3⟩ := mMdD f6
              obtain ⟨q, hq, hqm, hqn, hqd⟩ := mCl_of hcc10
              have hqc : q.1 = mCn ci := by
                match ci, hcc10, hq with
                | 0, _, hq => cases hq; rfl
                | 1, _, hq => cases hq; rfl
                | 2, _, hq => cases hq; rfl
                | 3, _, hq => cases hq; rfl
                | 4, _, hq => cases hq; rfl
                | 5, _, hq => cases hq; rfl
                | 6, _, hq => cases hq; rfl
                | 7, _, hq => cases hq; rfl
                | 8, _, hq => cases hq; rfl
                | 9, _, hq => cases hq; rfl
              have hcell := mWl_at (g := g) (σ := σ) hat
              rw [mCell_obj hcc10] at hcell
              have hrec := va_recv (hX.2.2.2.2.2.1.1) hP hq hcell
              rw [hqc] at hrec
              have hlenA : As.length = b - 1 := by
                have := congrArg List.length hxs
                simp at this
                omega
              have hst : st = (As.reverse ++ [Value.ref ix]) ++ t1 := by
                rw [h2]
                have := congrArg List.reverse hxs
                rw [List.reverse_reverse] at this
                rw [this]
                simp
              have CB : CallB R s args (mCn md.2.1) i (mD a0).1 (mD a0).2.2.1 (mD a0).2.2.2.1 (mD a0).2.2.2.2.1 (mWs a0) (mRm d (sp1.length - sp.length) (mTot sp1 - mTot sp)) (sp1.length - sp.length) (mTot sp1 - mTot sp) (b - 1) :=
                callB_of (b - 1) hX.2.2.2.2.1 (mGood f6) mCoW rfl rfl (by rw [m1]; exact hX.2.2.2.2.1 _ (mNv_in _ f4)) (hX.2.2.2.2.1 _ (mML_in _ f1)) ⟨m3.1, m3.2, f7⟩ ⟨hR, by show 8 + ((mD a0).2.2.2.1 + 11) + 41 * d ≤ R.locals; omega⟩
              have cw : CallW R s args (mCn md.2.1) (mCn ci) i (mD a0).1 (mD a0).2.2.1 (mD a0).2.2.2.1 (mD a0).2.2.2.2.1 (mWs a0) (mRm d (sp1.length - sp.length) (mTot sp1 - mTot sp)) (sp1.length - sp.length) (mTot sp1 - mTot sp) (b - 1) :=
                ⟨CB, hX.2.2.2.2.1 _ (mIv_in _ f2), by rw [← f5]; exact hX.2.2.2.2.1 _ (mSv_in _ f3)⟩
              rw [hxs] at hM hpre
              have hrun := va_runV (As := As.map (mE (mGh g))) (rest := t1.map (mE (mGh g))) (b := mGh g + ix) (g := F0 m pc ls (st.map (mE (mGh g)))) (locs := locs) (below := below) (meth := meth) (p := p) (e := e) hfix hM cw ⟨mBlind, hrec, fun U hU hW => by
                have h9 := hpre U hU hW
                rw [List.map_cons, show mE (mGh g) (.ref ix) = .ref (mGh g + ix) by show Value.ref (mAl (mGh g) ix) = _; rw [mAl_lt hlt]] at h9
                exact h9⟩ rfl (by rw [List.length_map]; exact hlenA) hl.2.1 (by
                show st.map (mE (mGh g)) = _
                rw [hst, List.map_append, List.map_append, List.map_reverse]
                simp only [List.map_cons, List.map_nil, List.append_assoc, List.singleton_append]
                rw [show mE (mGh g) (.ref ix) = .ref (mGh g + ix) by show Value.ref (mAl (mGh g) ix) = _; rw [mAl_lt hlt]]) (hms (Nat.le_of_ble_eq_true hc)) hd hf
              exact mCallK hX e1 hlen htot hn ht hS hl hrun k T hT X
          · cases h3
        · cases h3
  | invokestatic i =>
    simp only [mRx, Bool.and_eq_true, decide_eq_true_eq] at hx0
    obtain ⟨e1, e2⟩ := hx0
    have hd : decode md.2.2.1 pc = .ok (.invokestatic i, 3) := mDec hd0 e1
    unfold mCl at h
    simp only at h
    cases hb : Nat.blt a0 1000 with
    | false => rw [hb] at h; cases h
    | true =>
      rw [hb] at h
      obtain ⟨xs, t1, h1, h2, h3⟩ := mTk_spec h
      simp only [List.append_nil] at h3
      cases hc : Nat.ble (mCs t1) 8 with
      | false => rw [hc] at h3; cases h3
      | true =>
        rw [hc] at h3
        simp only [cond_true, Option.some.injEq, Prod.mk.injEq] at h3
        obtain ⟨rfl, rfl, rfl⟩ := h3
        rw [if_pos (by simpa [Nat.blt_eq] using hb)] at e2
        obtain ⟨f1, f2, f4, f6, f7, f9⟩ := of_decide_eq_true e2
        obtain ⟨m1, m2, m3⟩ := mMdD f6
        have CB : CallB R s args (mCn md.2.1) i (mD a0).1 (mD a0).2.2.1 (mD a0).2.2.2.1 (mD a0).2.2.2.2.1 (mWs a0) (mRm d (sp1.length - sp.length) (mTot sp1 - mTot sp)) (sp1.length - sp.length) (mTot sp1 - mTot sp) b :=
          callB_of b hX.2.2.2.2.1 (mGood f6) mCoW rfl rfl (by rw [m1]; exact hX.2.2.2.2.1 _ (mNv_in _ f4)) (hX.2.2.2.2.1 _ (mML_in _ f1)) ⟨m3.1, m3.2, f7⟩ ⟨hR, by show 8 + ((mD a0).2.2.2.1 + 11) + 41 * d ≤ R.locals; omega⟩
        have hrun := va_runS (As := xs.reverse.map (mE (mGh g))) (rest := t1.map (mE (mGh g))) (g := F0 m pc ls (st.map (mE (mGh g)))) (locs := locs) (below := below) (meth := meth) (p := p) (e := e) hfix hM ⟨CB, hX.2.2.2.2.1 _ (mTv_in _ f2)⟩ ⟨mBlind, hpre⟩ rfl (by simp [h1]) hl.2.1 (by
          show st.map (mE (mGh g)) = _
          rw [h2, List.map_append, List.map_reverse, List.reverse_reverse]) (hms (Nat.le_of_ble_eq_true hc)) hd hf
        exact mCallK hX e1 hlen htot hn ht hS hl hrun k T hT X
  | invokespecial i =>
    simp only [mRx, Bool.and_eq_true, decide_eq_true_eq] at hx0
    obtain ⟨e1, e2⟩ := hx0
    have hd : decode md.2.2.1 pc = .ok (.invokespecial i, 3) := mDec hd0 e1
    unfold mCl at h
    simp only at h
    cases hb : Nat.blt a0 1000 with
    | false => rw [hb] at h; cases h
    | true =>
      rw [hb] at h
      obtain ⟨xs, t1, h1, h2, h3⟩ := mTk_spec h
      simp only [List.append_nil] at h3
      cases hc : Nat.ble (mCs t1) 8 with
      | false => rw [hc] at h3; cases h3
      | true =>
        rw [hc] at h3
        simp only [cond_true] at h3
        split at h3
        · rename_i ix As hxs
          simp only [Option.some.injEq, Prod.mk.injEq] at h3
          obtain ⟨rfl, rfl, rfl⟩ := h3
          rw [if_pos (by simpa [Nat.blt_eq] using hb)] at e2
          simp only [Bool.and_eq_true] at e2
          obtain ⟨e3, e4⟩ := e2
          obtain ⟨f2, f4, f6, f7, f8, f9, f10, f11⟩ := of_decide_eq_true e4
          obtain ⟨m1, m2, m3⟩ := mMdD f6
          have hlenA : As.length = b - 1 := by
            have := congrArg List.length hxs
            simp at this
            omega
          have hst : st = (As.reverse ++ [Value.ref ix]) ++ t1 := by
            rw [h2]
            have := congrArg List.reverse hxs
            rw [List.reverse_reverse] at this
            rw [this]
            simp
          rw [hxs] at hM hpre
          have hstk : (F0 m pc ls (st.map (mE (mGh g)))).stack = (As.map (mE (mGh g))).reverse ++ .ref (mAl (mGh g) ix) :: t1.map (mE (mGh g)) := by
            show st.map (mE (mGh g)) = _
            rw [hst, List.map_append, List.map_append, List.map_reverse]
            simp only [List.map_cons, List.map_nil, List.append_assoc, List.singleton_append]
            rfl
          by_cases hcc : cc = 0
          · rw [if_pos hcc] at e3
            have CB : CallB R s args (mCn md.2.1) i (mD a0).1 (mD a0).2.2.1 (mD a0).2.2.2.1 none (mWs a0) (mRm d (sp1.length - sp.length) (mTot sp1 - mTot sp)) (sp1.length - sp.length) (mTot sp1 - mTot sp) (b - 1) :=
              callB_of (b - 1) hX.2.2.2.2.1 (mGood f6) (by rw [mCoW, f11]) rfl rfl (by rw [m1]; exact hX.2.2.2.2.1 _ (mNv_in _ f4)) (hX.2.2.2.2.1 _ (mML_in _ (of_decide_eq_true e3))) ⟨m3.1, m3.2, f7⟩ ⟨hR, by show 8 + ((mD a0).2.2.2.1 + 11) + 41 * d ≤ R.locals; omega⟩
            have hrun := va_runI (As := As.map (mE (mGh g))) (rest := t1.map (mE (mGh g))) (b := mAl (mGh g) ix) (g := F0 m pc ls (st.map (mE (mGh g)))) (locs := locs) (below := below) (meth := meth) (p := p) (e := e) hfix hM ⟨CB, f10, hX.2.2.2.2.1 _ (mIv_in _ f2)⟩ ⟨mBlind, hpre⟩ rfl (by rw [List.length_map]; exact hlenA) hl.2.1 hstk (hms (Nat.le_of_ble_eq_true hc)) hd hf
            exact mCallK hX e1 hlen htot hn ht hS hl hrun k T hT X
          · rw [if_neg hcc] at e3
            have CN := va_cnB (R := R) (args := args) (b - 1) hX.2.2.2.2.1 (mGood f6) (show mWs a0 = Cond.code (mD a0).1 (mD a0).2.2.1 (mD a0).2.2.2.1 none :: mTB by rw [mCoW, f11]) (rm := mRm d (sp1.length - sp.length) (mTot sp1 - mTot sp)) rfl rfl (hX.2.2.2.2.2.1.2.2.1 _ (of_decide_eq_true e3)) (by rw [m1]; exact hX.2.2.2.2.1 _ (mNv_in _ f4)) ⟨m3.1, m3.2, f7⟩ ⟨hR, by show 8 + ((mD a0).2.2.2.1 + 11) + 41 * d ≤ R.locals; omega⟩
            have hrun := va_runIN (As := As.map (mE (mGh g))) (rest := t1.map (mE (mGh g))) (b := mAl (mGh g) ix) (g := F0 m pc ls (st.map (mE (mGh g)))) (locs := locs) (below := below) (meth := meth) (p := p) (e := e) hfix hM ⟨CN, f10, hX.2.2.2.2.1 _ (mIv_in _ f2)⟩ ⟨mBlind, hpre⟩ rfl (by rw [List.length_map]; exact hlenA) hl.2.1 hstk (hms (Nat.le_of_ble_eq_true hc)) hd hf
            exact mCallK hX e1 hlen htot hn ht hS hl hrun k T hT X
        · cases h3
  | _ => simp [mCl] at h
end MS
end
section
/-! returns, the entry, and the judgement that methods are proved in -/
def mRt (md : mMd) (r : mRow) (st : List Value) : Option (Prop × Option Value) := match r.1 with
  | .ireturn => (match st with
    | [.int x] => (match md.2.2.2.2.1 with
      | some .int => some (True, some (.int x))
      | some .boolean => some (x = 0 ∨ x = 1, some (.int x))
      | _ => none)
    | _ => none)
  | .lreturn => (match st with
    | [.long x] => (match md.2.2.2.2.1 with
      | some .long => some (True, some (.long x))
      | _ => none)
    | _ => none)
  | .dreturn => (match st with
    | [.double x] => (match md.2.2.2.2.1 with
      | some .double => some (True, some (.double x))
      | _ => none)
    | _ => none)
  | .areturn => (match md.2.2.2.2.1 with
    | some (.object _) => (match st with
      | [.ref x] => some (True, some (.ref x))
      | [.null] => some (True, some .null)
      | _ => none)
    | some (.array _) => (match st with
      | [.ref x] => some (True, some (.ref x))
      | _ => none)
    | _ => none)
  | .return_ => (match st with
    | [] => (match md.2.2.2.2.1 with
      | none => some (True, none)
      | _ => none)
    | _ => none)
  | _ => none
section MS
variable {g : mG} {l : Launch} {md : mMd} {p : Program} {e : Env} {R : Room} {s : State} {m : MethodId} {args : Array Value} {below : List Frame} {meth : Method} {c : Code} {n0 t0 : Nat} {Q : State → Prop}
set_option maxHeartbeats 4000000 in
theorem mRt_ok (hX : mX g md p s m args meth c n0) (hok : mOkP md) {pc : Nat} {row : mRow} {L : mLs} {st : List Value} {sp : mSh} {σ : mHp} {C : Prop} {r : Option Value} (hr : mIn md.2.2.2.2.2 pc = some row) (h : mRt md row st = some (C, r)) (hC : C) : mM g l md p e R s m args below meth c n0 t0 (MQ below (mPost g r sp σ) args s (sp.length - n0) (mTot sp - t0) (mA g)) (pc, L, st, sp, σ) := by
  obtain ⟨hd0, -, hx0⟩ := mRow_ok hok.1 hr
  obtain ⟨ins, np, a, b, cc, v, w⟩ := row
  have hx : mRx md.2.1 (md.1.name == "<init>") pc (ins, np, a, b, cc, v, w) = true := hx0
  have hd1 : decode md.2.2.1 pc = .ok (ins, np - pc) := hd0
  have hret := hX.2.2.2.2.2.2.1
  have hlocks := hX.2.2.2.2.2.2.2.1
  clear hx0 hd0 hr
  have hq : ∀ {H : Heap} {locs : List Loc}, mP g sp σ H → va_S (mA g) s.heap H locs → ∀ (t : State), t.heap = H → mP g sp σ t.heap ∧ va_F (mA g) s t := fun hP hS t ht => ⟨by rw [ht]; exact hP, hS.F ht⟩
  unfold mRt at h
  simp only at h
  split at h
  · have e1 : np = pc + 1 := of_decide_eq_true hx
    have hd := mDec hd1 e1
    split at h
    · split at h
      · rename_i hm
        simp only [Option.some.injEq, Prod.mk.injEq] at h
        obtain ⟨rfl, rfl⟩ := h
        rw [hm] at hret
        intro hn ht H locs ls hP hS hl
        exact W.iret hX.1 hX.2.1 hret (fun t ht hW => ⟨rfl, hq hP hS t ht⟩) hS.2.2 hd hlocks
      · rename_i hm
        simp only [Option.some.injEq, Prod.mk.injEq] at h
        obtain ⟨rfl, rfl⟩ := h
        rw [hm] at hret
        intro hn ht H locs ls hP hS hl
        exact W.zret hX.1 hX.2.1 hret (mNar_z (t := .boolean) rfl hC).1 (fun t ht hW => ⟨rfl, hq hP hS t ht⟩) hS.2.2 hd hlocks
      · cases h
    · cases h
  · have e1 : np = pc + 1 := of_decide_eq_true hx
    have hd := mDec hd1 e1
    split at h
    · split at h
      · rename_i hm
        simp only [Option.some.injEq, Prod.mk.injEq] at h
        obtain ⟨rfl, rfl⟩ := h
        rw [hm] at hret
        intro hn ht H locs ls hP hS hl
        exact W.lret hX.1 hX.2.1 hret (fun t ht hW => ⟨rfl, hq hP hS t ht⟩) hS.2.2 hd hlocks
      · cases h
    · cases h
  · have e1 : np = pc + 1 := of_decide_eq_true hx
    have hd := mDec hd1 e1
    split at h
    · split at h
      · rename_i hm
        simp only [Option.some.injEq, Prod.mk.injEq] at h
        obtain ⟨rfl, rfl⟩ := h
        rw [hm] at hret
        intro hn ht H locs ls hP hS hl
        exact W.dret hX.1 hX.2.1 hret (fun t ht hW => ⟨rfl, hq hP hS t ht⟩) hS.2.2 hd hlocks
      · cases h
    · cases h
  · have e1 : np = pc + 1 := of_decide_eq_true hx
    have hd := mDec hd1 e1
    split at h
    · rename_i nm hm
      rw [hm] at hret
      split at h
      · simp only [Option.some.injEq, Prod.mk.injEq] at h
        obtain ⟨rfl, rfl⟩ := h
        intro hn ht H locs ls hP hS hl
        exact W.aret hX.1 hX.2.1 hret (Or.inl ⟨_, rfl⟩) (Or.inr ⟨_, rfl⟩) (fun t ht hW => ⟨rfl, hq hP hS t ht⟩) hS.2.2 hd hlocks
      · simp only [Option.some.injEq, Prod.mk.injEq] at h
        obtain ⟨rfl, rfl⟩ := h
        intro hn ht H locs ls hP hS hl
        exact W.aret hX.1 hX.2.1 hret (Or.inl ⟨_, rfl⟩) (Or.inl rfl) (fun t ht hW => ⟨rfl, hq hP hS t ht⟩) hS.2.2 hd hlocks
      · cases h
    · rename_i nm hm
      rw [hm] at hret
      split at h
      · simp only [Option.some.injEq, Prod.mk.injEq] at h
        obtain ⟨rfl, rfl⟩ := h
        intro hn ht H locs ls hP hS hl
        exact W.aret hX.1 hX.2.1 hret (Or.inr ⟨_, rfl⟩) (Or.inr ⟨_, rfl⟩) (fun t ht hW => ⟨rfl, hq hP hS t ht⟩) hS.2.2 hd hlocks
      · cases h
    · cases h
  · have e1 : np = pc + 1 := of_decide_eq_true hx
    have hd := mDec hd1 e1
    split at h
    · split at h
      · rename_i hm
        simp only [Option.some.injEq, Prod.mk.injEq] at h
        obtain ⟨rfl, rfl⟩ := h
        rw [hm] at hret
        intro hn ht H locs ls hP hS hl
        exact W.vret hX.1 hX.2.1 hret (fun t ht hW => ⟨rfl, hq hP hS t ht⟩) hS.2.2 hd hlocks
      · cases h
    · cases h
  · cases h
end MS
/-! the judgement -/
/-- method a with arguments as at (sp, σ) returns, and Post holds of its answer and of what it leaves; d: frames below it -/
def mC (g : mG) (l : Launch) (d a : Nat) (as : List Value) (sp : mSh) (σ : mHp) (Post : Option Value → mSh → mHp → Prop) : Prop := ∃ (r : Option Value) (sp1 : mSh) (σ1 : mHp), mEv g l d a as sp σ r sp1 σ1 ∧ Post r sp1 σ1
/-- from the state cf on, the method md returns, and Post holds then -/
def mGo (g : mG) (l : Launch) (d : Nat) (md : mMd) (n0 t0 : Nat) (cf : mCf) (Post : Option Value → mSh → mHp → Prop) : Prop :=
  ∃ (r : Option Value) (sp1 : mSh) (σ1 : mHp), cf.2.2.2.1.length ≤ sp1.length ∧ mTot cf.2.2.2.1 ≤ mTot sp1 ∧ Post r sp1 σ1 ∧ ∀ (p : Program) (e : Env) (R : Room) (s : State) (m : MethodId) (args : Array Value) (below : List Frame) (meth : Method) (c : Code), mX g md p s m args meth c n0 → d ≤ R.frames → 41 * d ≤ R.locals → sp1.length - n0 ≤ R.cells → mTot sp1 - t0 ≤ R.slots → mM g l md p e R s m args below meth c n0 t0 (MQ below (mPost g r sp1 σ1) args s (sp1.length - n0) (mTot sp1 - t0) (mA g)) cf
/-- straight steps, as far as they go (at most n) -/
def mRun (md : mMd) : Nat → mCf → Option mCf
  | 0, cf => some cf
  | n + 1, (pc, L, st, sp, σ) => match mIn md.2.2.2.2.2 pc with
    | none => some (pc, L, st, sp, σ)
    | some r => (match mEx r L st sp σ with
      | none => some (pc, L, st, sp, σ)
      | some cf1 => mRun md n cf1)
section MG
variable {g : mG} {l : Launch} {d : Nat} {md : mMd} {n0 t0 : Nat} {Post : Option Value → mSh → mHp → Prop}
set_option maxHeartbeats 4000000 in
theorem mEx_len {r : mRow} {L : mLs} {st : List Value} {sp : mSh} {σ : mHp} {cf : mCf} (h : mEx r L st sp σ = some cf) : cf.2.2.2.1.length = sp.length ∧ mTot cf.2.2.2.1 = mTot sp := by
  obtain ⟨ins, np, a, b, cc, v, w⟩ := r
  cases ins with
  | iconst n => cases h; exact ⟨rfl, rfl⟩
  | bipush n => cases h; exact ⟨rfl, rfl⟩
  | sipush n => cases h; exact ⟨rfl, rfl⟩
  | ldc2_w n => cases h; exact ⟨rfl, rfl⟩
  | aconst_null => cases h; exact ⟨rfl, rfl⟩
  | goto f => cases h; exact ⟨rfl, rfl⟩
  | ldc n => simp only [mEx] at h; split at h <;> first | (cases h; exact ⟨rfl, rfl⟩) | cases h
  | lconst n => simp only [mEx] at h; split at h <;> first | (cases h; exact ⟨rfl, rfl⟩) | cases h
  | dconst n => simp only [mEx] at h; split at h <;> first | (cases h; exact ⟨rfl, rfl⟩) | cases h
  | dcmp op => simp only [mEx] at h; split at h <;> first | (cases h; exact ⟨rfl, rfl⟩) | cases h
  | ifnull f => simp only [mEx] at h; split at h <;> first | (cases h; exact ⟨rfl, rfl⟩) | cases h
  | ifnonnull f => simp only [mEx] at h; split at h <;> first | (cases h; exact ⟨rfl, rfl⟩) | cases h
  | iadd => simp only [mEx] at h; split at h <;> first | (cases h; exact ⟨rfl, rfl⟩) | cases h
  | isub => simp only [mEx] at h; split at h <;> first | (cases h; exact ⟨rfl, rfl⟩) | cases h
  | imul => simp only [mEx] at h; split at h <;> first | (cases h; exact ⟨rfl, rfl⟩) | cases h
  | iand => simp only [mEx] at h; split at h <;> first | (cases h; exact ⟨rfl, rfl⟩) | cases h
  | ior => simp only [mEx] at h; split at h <;> first | (cases h; exact ⟨rfl, rfl⟩) | cases h
  | ixor => simp only [mEx] at h; split at h <;> first | (cases h; exact ⟨rfl, rfl⟩) | cases h
  | ishl => simp only [mEx] at h; split at h <;> first | (cases h; exact ⟨rfl, rfl⟩) | cases h
  | ishr => simp only [mEx] at h; split at h <;> first | (cases h; exact ⟨rfl, rfl⟩) | cases h
  | ladd => simp only [mEx] at h; split at h <;> first | (cases h; exact ⟨rfl, rfl⟩) | cases h
  | lmul => simp only [mEx] at h; split at h <;> first | (cases h; exact ⟨rfl, rfl⟩) | cases h
  | land => simp only [mEx] at h; split at h <;> first | (cases h; exact ⟨rfl, rfl⟩) | cases h
  | lor => simp only [mEx] at h; split at h <;> first | (cases h; exact ⟨rfl, rfl⟩) | cases h
  | lshl => simp only [mEx] at h; split at h <;> first | (cases h; exact ⟨rfl, rfl⟩) | cases h
  | lshr => simp only [mEx] at h; split at h <;> first | (cases h; exact ⟨rfl, rfl⟩) | cases h
  | lushr => simp only [mEx] at h; split at h <;> first | (cases h; exact ⟨rfl, rfl⟩) | cases h
  | lcmp => simp only [mEx] at h; split at h <;> first | (cases h; exact ⟨rfl, rfl⟩) | cases h
  | i2l => simp only [mEx] at h; split at h <;> first | (cases h; exact ⟨rfl, rfl⟩) | cases h
  | l2i => simp only [mEx] at h; split at h <;> first | (cases h; exact ⟨rfl, rfl⟩) | cases h
  | i2b => simp only [mEx] at h; split at h <;> first | (cases h; exact ⟨rfl, rfl⟩) | cases h
  | i2c => simp only [mEx] at h; split at h <;> first | (cases h; exact ⟨rfl, rfl⟩) | cases h
  | i2d => simp only [mEx] at h; split at h <;> first | (cases h; exact ⟨rfl, rfl⟩) | cases h
  | i2f => simp only [mEx] at h; split at h <;> first | (cases h; exact ⟨rfl, rfl⟩) | cases h
  | l2d => simp only [mEx] at h; split at h <;> first | (cases h; exact ⟨rfl, rfl⟩) | cases h
  | l2f => simp only [mEx] at h; split at h <;> first | (cases h; exact ⟨rfl, rfl⟩) | cases h
  | d2l => simp only [mEx] at h; split at h <;> first | (cases h; exact ⟨rfl, rfl⟩) | cases h
  | f2l => simp only [mEx] at h; split at h <;> first | (cases h; exact ⟨rfl, rfl⟩) | cases h
  | dneg => simp only [mEx] at h; split at h <;> first | (cases h; exact ⟨rfl, rfl⟩) | cases h
  | dup => simp only [mEx] at h; split at h <;> first | (split at h <;> first | (cases h; exact ⟨rfl, rfl⟩) | cases h) | cases h
  | dup2 => simp only [mEx] at h; split at h <;> first | (split at h <;> first | (cases h; exact ⟨rfl, rfl⟩) | cases h) | cases h
  | pop => simp only [mEx] at h; split at h <;> first | (split at h <;> first | (cases h; exact ⟨rfl, rfl⟩) | cases h) | cases h
  | iload i => simp only [mEx, mLdI] at h; split at h <;> first | (cases h; exact ⟨rfl, rfl⟩) | cases h
  | iload_n i => simp only [mEx, mLdI] at h; split at h <;> first | (cases h; exact ⟨rfl, rfl⟩) | cases h
  | lload i => simp only [mEx, mLdL] at h; split at h <;> first | (cases h; exact ⟨rfl, rfl⟩) | cases h
  | lload_n i => simp only [mEx, mLdL] at h; split at h <;> first | (cases h; exact ⟨rfl, rfl⟩) | cases h
  | fload i => simp only [mEx, mLdF] at h; split at h <;> first | (cases h; exact ⟨rfl, rfl⟩) | cases h
  | dload i => simp only [mEx, mLdD] at h; split at h <;> first | (cases h; exact ⟨rfl, rfl⟩) | cases h
  | dload_n i => simp only [mEx, mLdD] at h; split at h <;> first | (cases h; exact ⟨rfl, rfl⟩) | cases h
  | aload i => simp only [mEx, mLdA] at h; split at h <;> first | (cases h; exact ⟨rfl, rfl⟩) | cases h
  | aload_n i => simp only [mEx, mLdA] at h; split at h <;> first | (cases h; exact ⟨rfl, rfl⟩) | cases h
  | istore i => simp only [mEx, mStI] at h; split at h <;> first | (obtain ⟨L1, h1, -⟩ := mSet_spec h; cases h1; exact ⟨rfl, rfl⟩) | cases h
  | istore_n i => simp only [mEx, mStI] at h; split at h <;> first | (obtain ⟨L1, h1, -⟩ := mSet_spec h; cases h1; exact ⟨rfl, rfl⟩) | cases h
  | lstore i => simp only [mEx, mStL2] at h; split at h <;> first | (obtain ⟨L1, h1, -⟩ := mSet2_spec h; cases h1; exact ⟨rfl, rfl⟩) | cases h
  | lstore_n i => simp only [mEx, mStL2] at h; split at h <;> first | (obtain ⟨L1, h1, -⟩ := mSet2_spec h; cases h1; exact ⟨rfl, rfl⟩) | cases h
  | fstore i => simp only [mEx, mStF] at h; split at h <;> first | (obtain ⟨L1, h1, -⟩ := mSet_spec h; cases h1; exact ⟨rfl, rfl⟩) | cases h
  | dstore i => simp only [mEx, mStD] at h; split at h <;> first | (obtain ⟨L1, h1, -⟩ := mSet2_spec h; cases h1; exact ⟨rfl, rfl⟩) | cases h
  | dstore_n i => simp only [mEx, mStD] at h; split at h <;> first | (obtain ⟨L1, h1, -⟩ := mSet2_spec h; cases h1; exact ⟨rfl, rfl⟩) | cases h
  | astore i => simp only [mEx, mStA] at h; split at h <;> first | (obtain ⟨L1, h1, -⟩ := mSet_spec h; cases h1; exact ⟨rfl, rfl⟩) | cases h
  | astore_n i => simp only [mEx, mStA] at h; split at h <;> first | (obtain ⟨L1, h1, -⟩ := mSet_spec h; cases h1; exact ⟨rfl, rfl⟩) | cases h
  | iinc i n => simp only [mEx] at h; split at h <;> first | (obtain ⟨L1, h1, -⟩ := mSet_spec h; cases h1; exact ⟨rfl, rfl⟩) | cases h
  | arraylength =>
    simp only [mEx] at h
    split at h
    · split at h
      · rename_i kk n r hsp
        cases hb : (Nat.ble 100 kk && Nat.ble kk 103) with
        | false => rw [hb] at h; cases h
        | true => rw [hb] at h; cases h; exact ⟨rfl, rfl⟩
      · cases h
    · cases h
  | getfield i =>
    simp only [mEx, mGf] at h
    split at h
    · split at h
      · rename_i ci n r hsp
        cases hb : (Nat.beq ci a && Nat.blt b n) with
        | false => rw [hb] at h; cases h
        | true =>
          rw [hb] at h
          simp only [cond_true] at h
          split at h <;> first | (cases h; exact ⟨rfl, rfl⟩) | (split at h <;> (cases h; exact ⟨rfl, rfl⟩)) | cases h
      · cases h
    · cases h
  | putfield i =>
    have key : ∀ {ix : Nat} {o : Option Nat} {t : List Value}, mSpS sp ix b o (fun sp1 => some (np, L, t, sp1, σ)) = some cf → cf.2.2.2.1.length = sp.length ∧ mTot cf.2.2.2.1 = mTot sp := by
      intro ix o t h
      obtain ⟨sh, g1, g2, g3⟩ := mSpS_spec h
      cases g3
      obtain ⟨s1, s2, s3⟩ := sh
      exact ⟨by simp, mTot_set g1⟩
    simp only [mEx, mPf] at h
    split at h <;> (first
      | cases h
      | (split at h <;> first
        | cases h
        | (rename_i ix t
           cases hh : mHas sp ix a b with
           | false => rw [hh] at h; cases h
           | true => rw [hh] at h; simp only [cond_true] at h; first | (cases h; exact ⟨rfl, rfl⟩) | exact key h)))
  | _ => simp [mEx] at h
theorem mGo_step {pc : Nat} {L : mLs} {st : List Value} {sp : mSh} {σ : mHp} {r : mRow} {cf : mCf} (hok : mOkP md) (hr : mIn md.2.2.2.2.2 pc = some r) (h : mEx r L st sp σ = some cf) (k : mGo g l d md n0 t0 cf Post) : mGo g l d md n0 t0 (pc, L, st, sp, σ) Post := by
  obtain ⟨v, sp1, σ1, h1, h2, h3, h4⟩ := k
  obtain ⟨e1, e2⟩ := mEx_len h
  refine ⟨v, sp1, σ1, by rw [e1] at h1; exact h1, by rw [e2] at h2; exact h2, h3, fun p e R s m args below meth c hX a1 a2 a3 a4 => ?_⟩
  exact mEx_ok hX hok hr h (h4 p e R s m args below meth c hX a1 a2 a3 a4)
theorem mGo_run {n : Nat} : ∀ {cf cf1 : mCf}, mOkP md → mRun md n cf = some cf1 → mGo g l d md n0 t0 cf1 Post → mGo g l d md n0 t0 cf Post := by
  induction n with
  | zero => intro cf cf1 _ h k; cases h; exact k
  | succ n ih =>
    intro cf cf1 hok h k
    obtain ⟨pc, L, st, sp, σ⟩ := cf
    simp only [mRun] at h
    split at h
    · cases h; exact k
    · rename_i r hr
      split at h
      · cases h; exact k
      · rename_i cf2 hx
        exact mGo_step hok hr hx (ih hok h k)
theorem mSd_len {r : mRow} {L : mLs} {st : List Value} {sp : mSh} {σ : mHp} {C : Prop} {cf : mCf} (h : mSd g r L st sp σ = some (C, cf)) : cf.2.2.2.1 = sp := by
  obtain ⟨ins, np, a, b, cc, v, w⟩ := r
  cases ins with
  | iaload => simp only [mSd] at h; split at h <;> first | (cases h <;> rfl) | (split at h <;> (cases h <;> rfl))
  | laload => simp only [mSd] at h; split at h <;> first | (cases h <;> rfl) | (split at h <;> (cases h <;> rfl))
  | daload => simp only [mSd] at h; split at h <;> first | (cases h <;> rfl) | (split at h <;> (cases h <;> rfl))
  | iastore => simp only [mSd] at h; split at h <;> first | (cases h <;> rfl) | (split at h <;> (cases h <;> rfl))
  | lastore => simp only [mSd] at h; split at h <;> first | (cases h <;> rfl) | (split at h <;> (cases h <;> rfl))
  | dastore => simp only [mSd] at h; split at h <;> first | (cases h <;> rfl) | (split at h <;> (cases h <;> rfl))
  | aaload => simp only [mSd] at h; split at h <;> first | (cases h <;> rfl) | (split at h <;> first | (cases h <;> rfl) | (split at h <;> (cases h <;> rfl)))
  | lrem => simp only [mSd] at h; split at h <;> (cases h <;> rfl)
  | f2d => simp only [mSd] at h; split at h <;> (cases h <;> rfl)
  | d2f => simp only [mSd] at h; split at h <;> (cases h <;> rfl)
  | fdiv => simp only [mSd] at h; split at h <;> (cases h <;> rfl)
  | ddiv => simp only [mSd] at h; split at h <;> (cases h <;> rfl)
  | dadd => simp only [mSd] at h; split at h <;> (cases h <;> rfl)
  | dsub => simp only [mSd] at h; split at h <;> (cases h <;> rfl)
  | ldc i => simp only [mSd] at h; split at h <;> (cases h <;> rfl)
  | putfield i =>
    simp only [mSd] at h
    split at h
    · split at h
      · rename_i x ix t
        cases hh : mHas sp ix a b with
        | false => rw [hh] at h; cases h
        | true =>
          rw [hh] at h
          simp only [cond_true, Option.some.injEq, Prod.mk.injEq] at h
          obtain ⟨-, rfl⟩ := h
          rfl
      · cases h
    · cases h
  | _ => simp [mSd] at h
def mSdF (g : mG) (md : mMd) (cf : mCf) : Option (Prop × mCf) := match cf with
  | (pc, L, st, sp, σ) => match mIn md.2.2.2.2.2 pc with
    | none => none
    | some r => mSd g r L st sp σ
/-- a step with a condition -/
theorem mGo_side {cf cf1 : mCf} {C : Prop} (hok : mOkP md) (h : mSdF g md cf = some (C, cf1)) (hC : C) (k : mGo g l d md n0 t0 cf1 Post) : mGo g l d md n0 t0 cf Post := by
  obtain ⟨pc, L, st, sp, σ⟩ := cf
  unfold mSdF at h
  simp only at h
  split at h
  · cases h
  · rename_i r hr
    obtain ⟨v, sp1, σ1, h1, h2, h3, h4⟩ := k
    have e1 := mSd_len h
    refine ⟨v, sp1, σ1, by rw [e1] at h1; exact h1, by rw [e1] at h2; exact h2, h3, fun p e R s m args below meth c hX a1 a2 a3 a4 => ?_⟩
    exact mSd_ok hX hok hr h hC (h4 p e R s m args below meth c hX a1 a2 a3 a4)
theorem mBn_len {r : mRow} {L : mLs} {st : List Value} {sp : mSh} {σ : mHp} {C : Prop} {c1 c2 : mCf} (h : mBn r L st sp σ = some (C, c1, c2)) : c1.2.2.2.1 = sp ∧ c2.2.2.2.1 = sp := by
  obtain ⟨ins, np, a, b, cc, v, w⟩ := r
  cases ins with
  | if_icmp cd f => simp only [mBn] at h; split at h <;> first | cases h | (cases cd <;> (simp only [Option.some.injEq, Prod.mk.injEq] at h; obtain ⟨-, rfl, rfl⟩ := h; exact ⟨rfl, rfl⟩))
  | ifCond cd f => simp only [mBn] at h; split at h <;> first | cases h | (cases cd <;> (simp only [Option.some.injEq, Prod.mk.injEq] at h; obtain ⟨-, rfl, rfl⟩ := h; exact ⟨rfl, rfl⟩))
  | _ => simp [mBn] at h
def mBnF (md : mMd) (cf : mCf) : Option (Prop × mCf × mCf) := match cf with
  | (pc, L, st, sp, σ) => match mIn md.2.2.2.2.2 pc with
    | none => none
    | some r => mBn r L st sp σ
/-- a branch -/
theorem mGo_if {cf c1 c2 : mCf} {C : Prop} (hok : mOkP md) (h : mBnF md cf = some (C, c1, c2)) (k1 : C → mGo g l d md n0 t0 c1 Post) (k2 : ¬ C → mGo g l d md n0 t0 c2 Post) : mGo g l d md n0 t0 cf Post := by
  obtain ⟨pc, L, st, sp, σ⟩ := cf
  unfold mBnF at h
  simp only at h
  split at h
  · cases h
  · rename_i r hr
    obtain ⟨e1, e2⟩ := mBn_len h
    by_cases hc : C
    · obtain ⟨v, sp1, σ1, h1, h2, h3, h4⟩ := k1 hc
      refine ⟨v, sp1, σ1, by rw [e1] at h1; exact h1, by rw [e1] at h2; exact h2, h3, fun p e R s m args below meth c hX a1 a2 a3 a4 => ?_⟩
      exact mBn_ok hX hok hr h (fun _ => h4 p e R s m args below meth c hX a1 a2 a3 a4) (fun q => absurd hc q)
    · obtain ⟨v, sp1, σ1, h1, h2, h3, h4⟩ := k2 hc
      refine ⟨v, sp1, σ1, by rw [e2] at h1; exact h1, by rw [e2] at h2; exact h2, h3, fun p e R s m args below meth c hX a1 a2 a3 a4 => ?_⟩
      exact mBn_ok hX hok hr h (fun q => absurd q hc) (fun _ => h4 p e R s m args below meth c hX a1 a2 a3 a4)
def mSwF (md : mMd) (cf : mCf) : Option (Int32 × List (Int32 × Nat) × Nat × List Value) := match cf with
  | (pc, _, st, _, _) => match mIn md.2.2.2.2.2 pc with
    | none => none
    | some r => mSw pc r st
/-- a switch -/
theorem mGo_sw {pc : Nat} {L : mLs} {st t : List Value} {sp : mSh} {σ : mHp} {x : Int32} {ks : List (Int32 × Nat)} {df : Nat} (hok : mOkP md) (h : mSwF md (pc, L, st, sp, σ) = some (x, ks, df, t)) (k : mSwG (fun q => mGo g l d md n0 t0 (q, L, t, sp, σ) Post) x ks df) : mGo g l d md n0 t0 (pc, L, st, sp, σ) Post := by
  unfold mSwF at h
  simp only at h
  split at h
  · cases h
  · rename_i r hr
    have k := mSwG_at k
    obtain ⟨v, sp1, σ1, h1, h2, h3, h4⟩ := k
    refine ⟨v, sp1, σ1, h1, h2, h3, fun p e R s m args below meth c hX a1 a2 a3 a4 => ?_⟩
    exact mSw_okT hX hok hr h (h4 p e R s m args below meth c hX a1 a2 a3 a4)
def mRtF (md : mMd) (cf : mCf) : Option (Prop × Option Value) := match cf with
  | (pc, _, st, _, _) => match mIn md.2.2.2.2.2 pc with
    | none => none
    | some r => mRt md r st
/-- a return -/
theorem mGo_ret {pc : Nat} {L : mLs} {st : List Value} {sp : mSh} {σ : mHp} {C : Prop} {r : Option Value} (hok : mOkP md) (h : mRtF md (pc, L, st, sp, σ) = some (C, r)) (hC : C) (hp : Post r sp σ) : mGo g l d md n0 t0 (pc, L, st, sp, σ) Post := by
  unfold mRtF at h
  simp only at h
  split at h
  · cases h
  · rename_i row hr
    exact ⟨r, sp, σ, Nat.le_refl _, Nat.le_refl _, hp, fun p e R s m args below meth c hX a1 a2 a3 a4 => mRt_ok hX hok hr h hC⟩
def mClF (md : mMd) (cf : mCf) : Option (Nat × List Value × Nat × List Value) := match cf with
  | (pc, _, st, sp, _) => match mIn md.2.2.2.2.2 pc with
    | none => none
    | some r => (match r with
      | (ins, np, a0, b, c, v, w) => (match mCl (ins, np, a0, b, c, v, w) st sp with
        | none => none
        | some (a, as, t) => some (a, as, np, t)))
/-- a call -/
theorem mGo_call {pc np a d1 : Nat} {L : mLs} {st as t : List Value} {sp : mSh} {σ : mHp} {Pc : Option Value → mSh → mHp → Prop} (hok : mOkP md) (h : mClF md (pc, L, st, sp, σ) = some (a, as, np, t)) (hd : d1 + 1 ≤ d) (hc : mC g l d1 a as sp σ Pc) (k : ∀ (r : Option Value) (sp1 : mSh) (σ1 : mHp), Pc r sp1 σ1 → mGo g l d md n0 t0 (np, L, mPu r t, sp1, σ1) Post) : mGo g l d md n0 t0 (pc, L, st, sp, σ) Post := by
  unfold mClF at h
  simp only at h
  split at h
  · cases h
  · rename_i row hr
    obtain ⟨ins, np1, a0, b, cc, v, w⟩ := row
    split at h
    · cases h
    · rename_i a1 as1 t1 hcl
      simp only [Option.some.injEq, Prod.mk.injEq] at h
      obtain ⟨rfl, rfl, rfl, rfl⟩ := h
      obtain ⟨r, sp2, σ2, hev, hpc⟩ := hc
      obtain ⟨v1, sp1, σ1, h1, h2, h3, h4⟩ := k r sp2 σ2 hpc
      have h1 : sp2.length ≤ sp1.length := h1
      have h2 : mTot sp2 ≤ mTot sp1 := h2
      refine ⟨v1, sp1, σ1, Nat.le_trans hev.1 h1, Nat.le_trans hev.2.1 h2, h3, fun p e R s m args below meth c hX b1 b2 b3 b4 => ?_⟩
      exact mCl_ok hX hok hr hcl hev (by omega) (by omega) (by omega) (by omega) (h4 p e R s m args below meth c hX b1 b2 b3 b4)
end MG
end
section
/-! a method's entry; further rules of the judgement -/
def mL0 {β : Type} : Nat → List Value → (mLs → Option β) → Option β
  | 0, [], k => k []
  | 0, _ :: _, _ => none
  | n + 1, [], k => mL0 n [] (fun t => k (none :: t))
  | n + 2, .long x :: vs, k => mL0 n vs (fun t => k (some (.long x) :: none :: t))
  | n + 2, .double x :: vs, k => mL0 n vs (fun t => k (some (.double x) :: none :: t))
  | 1, .long _ :: _, _ => none
  | 1, .double _ :: _, _ => none
  | n + 1, v :: vs, k => mL0 n vs (fun t => k (some v :: t))
theorem mL0_spec {β : Type} {h : Nat} : ∀ {n : Nat} {as : List Value} {k : mLs → Option β} {b : β}, mL0 n as k = some b → ∃ L, k L = some b ∧ L.length = n ∧ (lg_sl (as.map (mE h))).length ≤ n ∧ ∀ i q, q ∈ mLp h i L → q ∈ lv_args i (as.map (mE h)) := by
  intro n
  induction n using Nat.strongRecOn with
  | _ n ih =>
  intro as k b hh
  match n, as, ih, hh with
  | 0, [], ih, hh => exact ⟨[], hh, rfl, by simp [lg_sl], fun i q hq => by simp [mLp] at hq⟩
  | 0, _ :: _, ih, hh => simp [mL0] at hh
  | n + 1, [], ih, hh =>
    simp only [mL0] at hh
    obtain ⟨L, h1, h2, h3, h4⟩ := ih n (by omega) hh
    exact ⟨none :: L, h1, by simp [h2], by simp [lg_sl], fun i q hq => by
      have := h4 (i + 1) q hq
      simp [lv_args] at this⟩
  | 1, v :: vs, ih, hh =>
    cases v with
    | long x => simp [mL0] at hh
    | double x => simp [mL0] at hh
    | _ =>
      simp only [mL0] at hh
      obtain ⟨L, h1, h2, h3, h4⟩ := ih 0 (by omega) hh
      refine ⟨some _ :: L, h1, by simp [h2], by simp [lg_sl, mE, Value.category] at h3 ⊢; exact h3, fun i q hq => ?_⟩
      rcases List.mem_cons.mp hq with rfl | hq
      · exact List.mem_cons_self
      · exact List.mem_cons_of_mem _ (h4 (i + 1) q hq)
  | n + 2, v :: vs, ih, hh =>
    cases v with
    | long x =>
      simp only [mL0] at hh
      obtain ⟨L, h1, h2, h3, h4⟩ := ih n (by omega) hh
      refine ⟨some _ :: none :: L, h1, by simp [h2], by simp [lg_sl, mE, Value.category] at h3 ⊢; omega, fun i q hq => ?_⟩
      rcases List.mem_cons.mp hq with rfl | hq
      · exact List.mem_cons_self
      · exact List.mem_cons_of_mem _ (h4 (i + 1 + 1) q hq)
    | double x =>
      simp only [mL0] at hh
      obtain ⟨L, h1, h2, h3, h4⟩ := ih n (by omega) hh
      refine ⟨some _ :: none :: L, h1, by simp [h2], by simp [lg_sl, mE, Value.category] at h3 ⊢; omega, fun i q hq => ?_⟩
      rcases List.mem_cons.mp hq with rfl | hq
      · exact List.mem_cons_self
      · exact List.mem_cons_of_mem _ (h4 (i + 1 + 1) q hq)
    | _ =>
      simp only [mL0] at hh
      obtain ⟨L, h1, h2, h3, h4⟩ := ih (n + 1) (by omega) hh
      refine ⟨some _ :: L, h1, by simp [h2], by simp [lg_sl, mE, Value.category] at h3 ⊢; omega, fun i q hq => ?_⟩
      rcases List.mem_cons.mp hq with rfl | hq
      · exact List.mem_cons_self
      · exact List.mem_cons_of_mem _ (h4 (i + 1) q hq)
section MG
variable {g : mG} {l : Launch} {d : Nat} {md : mMd} {n0 t0 : Nat} {Post : Option Value → mSh → mHp → Prop}
/-- a method's contract out of the walk of its body -/
theorem mC_of {a : Nat} {as : List Value} {sp : mSh} {σ : mHp} {L : mLs} (hmd : mD a = md) (ha : a < mdL.length) (hL : mL0 md.2.2.2.1 as some = some L) (k : mGo g l d md sp.length (mTot sp) (0, L, [], sp, σ) Post) : mC g l d a as sp σ Post := by
  subst hmd
  obtain ⟨r, sp1, σ1, h1, h2, h3, h4⟩ := k
  have h1 : sp.length ≤ sp1.length := h1
  have h2 : mTot sp ≤ mTot sp1 := h2
  obtain ⟨m1, m2, m3⟩ := mMdD ha
  refine ⟨r, sp1, σ1, ⟨h1, h2, ?_⟩, h3⟩
  refine va_MetF (cc := (mD a).2.2.1) (maxL := (mD a).2.2.2.1) (ret := (mD a).2.2.2.2.1) m2 mCoW ?_
  intro p e s m args below meth c s₁ B hml hv
  obtain ⟨rfl, hz, hH, hP, hK⟩ := hv
  have hts := atoms_spec (ws := mWs a) B.pre
  have hown : s.vm.findClass (mD a).1.cls = some m.cls := findClass_of_methodNamed B.named
  have hin : meth.name = (mD a).1.name := (name_of_methodNamed B.named B.method).1
  have hX : mX g (mD a) p s m (as.map (mE (mGh g))).toArray meth c sp.length := ⟨B.exec, B.bytes, hml, by rw [← m1]; exact hown, fun w hw => hts w (List.mem_cons_of_mem _ hw), hK, B.returns, B.notSynchronized, hz, hH, hin⟩
  have M := h4 p e (headSpec (mWs a) (mRm d (sp1.length - sp.length) (mTot sp1 - mTot sp))).room s m (as.map (mE (mGh g))).toArray below meth c hX (Nat.le_refl _) (Nat.le_refl _) (Nat.le_refl _) (Nat.le_refl _)
  obtain ⟨L', e1, e2, e3, e4⟩ := mL0_spec (h := mGh g) hL
  cases e1
  rw [lg_entry_eq]
  have hl := lv_entry (as.map (mE (mGh g))) (n := (mD a).2.2.2.1) e3
  have W1 := M (Nat.le_refl _) (Nat.le_refl _) s.heap [] _ hP va_S.rf ⟨e2, hl.1, hl.2.1, fun q hq => hl.2.2 q (e4 0 q hq)⟩
  have W1 : W p l e (headSpec (mWs a) (mRm d (sp1.length - sp.length) (mTot sp1 - mTot sp))).room s m (as.map (mE (mGh g))).toArray below meth c s.heap [] (sp.length - sp.length) (mTot sp - mTot sp) _ (F0 m 0 _ []) := W1
  rw [Nat.sub_self, Nat.sub_self] at W1
  exact W1
theorem mC_mono {a : Nat} {as : List Value} {sp : mSh} {σ : mHp} {P1 P2 : Option Value → mSh → mHp → Prop} (h : mC g l d a as sp σ P1) (h2 : ∀ r sp1 σ1, P1 r sp1 σ1 → P2 r sp1 σ1) : mC g l d a as sp σ P2 := by
  obtain ⟨r, sp1, σ1, h1, h3⟩ := h
  exact ⟨r, sp1, σ1, h1, h2 _ _ _ h3⟩
theorem mGo_mono {cf : mCf} {P1 P2 : Option Value → mSh → mHp → Prop} (h : mGo g l d md n0 t0 cf P1) (h2 : ∀ r sp1 σ1, P1 r sp1 σ1 → P2 r sp1 σ1) : mGo g l d md n0 t0 cf P2 := by
  obtain ⟨r, sp1, σ1, a1, a2, a3, a4⟩ := h
  exact ⟨r, sp1, σ1, a1, a2, h2 _ _ _ a3, a4⟩
/-- fewer locals are known -/
def mLe : mLs → mLs → Prop
  | [], [] => True
  | none :: t, _ :: t1 => mLe t t1
  | some v :: t, x :: t1 => x = some v ∧ mLe t t1
  | _, _ => False
theorem mLe_spec : ∀ {L' L : mLs}, mLe L' L → L'.length = L.length ∧ ∀ (j : Nat) (w : Value), L'[j]? = some (some w) → L[j]? = some (some w) := by
  intro L'
  induction L' with
  | nil => intro L h; cases L with
    | nil => exact ⟨rfl, fun j w h => h⟩
    | cons a t => simp [mLe] at h
  | cons a t ih =>
    intro L h
    cases L with
    | nil => cases a <;> simp [mLe] at h
    | cons b t1 =>
      cases a with
      | none =>
        obtain ⟨i1, i2⟩ := ih (show mLe t t1 from h)
        exact ⟨by simp [i1], fun j w hj => by
          cases j with
          | zero => simp at hj
          | succ j => simpa using i2 j w (by simpa using hj)⟩
      | some v =>
        obtain ⟨h1, h2⟩ := (show b = some v ∧ mLe t t1 from h)
        subst h1
        obtain ⟨i1, i2⟩ := ih h2
        exact ⟨by simp [i1], fun j w hj => by
          cases j with
          | zero => simpa using hj
          | succ j => simpa using i2 j w (by simpa using hj)⟩
theorem mGo_weak {pc : Nat} {L L' : mLs} {st : List Value} {sp : mSh} {σ : mHp} (h : mLe L' L) (k : mGo g l d md n0 t0 (pc, L', st, sp, σ) Post) : mGo g l d md n0 t0 (pc, L, st, sp, σ) Post := by
  obtain ⟨r, sp1, σ1, a1, a2, a3, a4⟩ := k
  refine ⟨r, sp1, σ1, a1, a2, a3, fun p e R s m args below meth c hX b1 b2 b3 b4 => ?_⟩
  intro hn ht H locs ls hP hS hl
  obtain ⟨h1, h2⟩ := mLe_spec h
  exact a4 p e R s m args below meth c hX b1 b2 b3 b4 hn ht H locs ls hP hS (hl.weak h1 h2)
/-- new arrays and objects: i is the number of the new cell -/
theorem mGo_newa {pc np a b cc i N : Nat} {v : Int32} {w : Int64} {ty : Jvm.ClassFile.ArrayType} {x : Int32} {L : mLs} {t : List Value} {sp sp1 : mSh} {σ : mHp} (hok : mOkP md) (hr : mIn md.2.2.2.2.2 pc = some (.newarray ty, np, a, b, cc, v, w)) (hx : x = nI N) (hN : N ≤ 1000000) (hi : sp.length = i) (hlt : i < 1000000) (hn : n0 ≤ i) (ht : t0 ≤ mTot sp) (hsp : sp ++ [(a, N, [])] = sp1) (k : mGo g l d md n0 t0 (np, L, .ref i :: t, sp1, mNew σ i) Post) : mGo g l d md n0 t0 (pc, L, .int x :: t, sp, σ) Post := by
  subst hx
  subst hi
  subst hsp
  obtain ⟨r, sp2, σ2, a1, a2, a3, a4⟩ := k
  have a1 : (sp ++ [(a, N, ([] : List (Option Nat)))]).length ≤ sp2.length := a1
  have a2 : mTot (sp ++ [(a, N, ([] : List (Option Nat)))]) ≤ mTot sp2 := a2
  rw [mTot_app] at a2
  simp at a1 a2
  refine ⟨r, sp2, σ2, by show sp.length ≤ _; omega, by show mTot sp ≤ _; omega, a3, fun p e R s m args below meth c hX b1 b2 b3 b4 => ?_⟩
  exact mNewa_ok hX hok hr hN (by omega) (by omega) hlt (a4 p e R s m args below meth c hX b1 b2 b3 b4)
theorem mGo_newq {pc np a b cc i j N : Nat} {v : Int32} {w : Int64} {x : Int32} {L : mLs} {t : List Value} {sp sp1 : mSh} {σ : mHp} (hok : mOkP md) (hr : mIn md.2.2.2.2.2 pc = some (.anewarray j, np, a, b, cc, v, w)) (hx : x = nI N) (hN : N ≤ 1000000) (hi : sp.length = i) (hlt : i < 1000000) (hn : n0 ≤ i) (ht : t0 ≤ mTot sp) (hsp : sp ++ [(103, N, List.replicate N none)] = sp1) (k : mGo g l d md n0 t0 (np, L, .ref i :: t, sp1, mNew σ i) Post) : mGo g l d md n0 t0 (pc, L, .int x :: t, sp, σ) Post := by
  subst hx
  subst hi
  subst hsp
  obtain ⟨r, sp2, σ2, a1, a2, a3, a4⟩ := k
  have a1 : (sp ++ [(103, N, List.replicate N (none : Option Nat))]).length ≤ sp2.length := a1
  have a2 : mTot (sp ++ [(103, N, List.replicate N (none : Option Nat))]) ≤ mTot sp2 := a2
  rw [mTot_app] at a2
  simp at a1 a2
  refine ⟨r, sp2, σ2, by show sp.length ≤ _; omega, by show mTot sp ≤ _; omega, a3, fun p e R s m args below meth c hX b1 b2 b3 b4 => ?_⟩
  exact mNewq_ok hX hok hr hN (by omega) (by omega) hlt (a4 p e R s m args below meth c hX b1 b2 b3 b4)
theorem mGo_newo {pc np a b cc i j : Nat} {v : Int32} {w : Int64} {L : mLs} {st : List Value} {sp sp1 : mSh} {σ : mHp} (hok : mOkP md) (hr : mIn md.2.2.2.2.2 pc = some (.new j, np, a, b, cc, v, w)) (hi : sp.length = i) (hlt : i < 1000000) (hn : n0 ≤ i) (ht : t0 ≤ mTot sp) (hsp : sp ++ [(a, b, List.replicate b none)] = sp1) (k : mGo g l d md n0 t0 (np, L, .ref i :: st, sp1, mNew σ i) Post) : mGo g l d md n0 t0 (pc, L, st, sp, σ) Post := by
  subst hi
  subst hsp
  obtain ⟨r, sp2, σ2, a1, a2, a3, a4⟩ := k
  have a1 : (sp ++ [(a, b, List.replicate b (none : Option Nat))]).length ≤ sp2.length := a1
  have a2 : mTot (sp ++ [(a, b, List.replicate b (none : Option Nat))]) ≤ mTot sp2 := a2
  rw [mTot_app] at a2
  simp at a1 a2
  refine ⟨r, sp2, σ2, by show sp.length ≤ _; omega, by show mTot sp ≤ _; omega, a3, fun p e R s m args below meth c hX b1 b2 b3 b4 => ?_⟩
  exact mNewo_ok hX hok hr (by omega) (by omega) hlt (a4 p e R s m args below meth c hX b1 b2 b3 b4)
theorem mGo_obj {pc np b cc i ix : Nat} {v : Int32} {w : Int64} {L : mLs} {sp : mSh} {σ : mHp} (hok : mOkP md) (hr : mIn md.2.2.2.2.2 pc = some (.invokespecial i, np, 1010, b, cc, v, w)) (hl0 : Cond.methodLink (mCn md.2.1) i Lib.objectInit ∈ mTB) (hd : 1 ≤ d) (k : mGo g l d md n0 t0 (np, L, [], sp, σ) Post) : mGo g l d md n0 t0 (pc, L, [.ref ix], sp, σ) Post := by
  obtain ⟨r, sp2, σ2, a1, a2, a3, a4⟩ := k
  exact ⟨r, sp2, σ2, a1, a2, a3, fun p e R s m args below meth c hX b1 b2 b3 b4 => mObj_ok hX hok hr hl0 (by omega) (by omega) (a4 p e R s m args below meth c hX b1 b2 b3 b4)⟩
theorem mGo_ast {pc np a b cc q j n n2 : Nat} {v i : Int32} {w : Int64} {r r2 : List (Option Nat)} {L : mLs} {t : List Value} {sp : mSh} {σ : mHp} {cf : mCf} (hok : mOkP md) (hr : mIn md.2.2.2.2.2 pc = some (.aastore, np, a, b, cc, v, w)) (hat : sp[q]? = some (103, n, r)) (hlt : q < 1000000) (hat2 : sp[j]? = some (5, n2, r2)) (hlt2 : j < 1000000) (hi : vp_in i n) (h : mSpS sp q i.toNatClampNeg (some j) (fun sp1 => some (np, L, t, sp1, σ)) = some cf) (k : mGo g l d md n0 t0 cf Post) : mGo g l d md n0 t0 (pc, L, .ref j :: .int i :: .ref q :: t, sp, σ) Post := by
  obtain ⟨r, sp2, σ2, a1, a2, a3, a4⟩ := k
  have e1 : cf.2.2.2.1.length = sp.length ∧ mTot cf.2.2.2.1 = mTot sp := by
    obtain ⟨sh, g1, g2, g3⟩ := mSpS_spec h
    cases g3
    obtain ⟨s1, s2, s3⟩ := sh
    exact ⟨by simp, mTot_set g1⟩
  rw [e1.1] at a1
  rw [e1.2] at a2
  exact ⟨r, sp2, σ2, a1, a2, a3, fun p e R s m args below meth c hX b1 b2 b3 b4 => mAst_ok hX hok hr hat hlt hat2 hlt2 hi h (a4 p e R s m args below meth c hX b1 b2 b3 b4)⟩
/-- an int array whose number is no literal -/
theorem mGo_ild {pc np a b cc q n : Nat} {v i : Int32} {w : Int64} {r : List (Option Nat)} {L : mLs} {t : List Value} {sp : mSh} {σ : mHp} (hok : mOkP md) (hr : mIn md.2.2.2.2.2 pc = some (.iaload, np, a, b, cc, v, w)) (hat : sp[q]? = some (100, n, r)) (hlt : q < 1000000) (hi : vp_in i n) (k : mGo g l d md n0 t0 (np, L, .int (σ.1 q i.toNatClampNeg) :: t, sp, σ) Post) : mGo g l d md n0 t0 (pc, L, .int i :: .ref q :: t, sp, σ) Post := by
  obtain ⟨hd0, -, hx0⟩ := mRow_ok hok.1 hr
  have e1 : np = pc + 1 := of_decide_eq_true hx0
  subst e1
  obtain ⟨r, sp2, σ2, a1, a2, a3, a4⟩ := k
  exact ⟨r, sp2, σ2, a1, a2, a3, fun p e R s m args below meth c hX b1 b2 b3 b4 => mIld_ok hX (mDec hd0 rfl) hat hlt hi (a4 p e R s m args below meth c hX b1 b2 b3 b4)⟩
theorem mGo_ist {pc np a b cc q n : Nat} {v i x : Int32} {w : Int64} {r : List (Option Nat)} {L : mLs} {t : List Value} {sp : mSh} {σ : mHp} (hok : mOkP md) (hr : mIn md.2.2.2.2.2 pc = some (.iastore, np, a, b, cc, v, w)) (hat : sp[q]? = some (100, n, r)) (hlt : q < 1000000) (hi : vp_in i n) (k : mGo g l d md n0 t0 (np, L, t, sp, mWI σ q i.toNatClampNeg x) Post) : mGo g l d md n0 t0 (pc, L, .int x :: .int i :: .ref q :: t, sp, σ) Post := by
  obtain ⟨hd0, -, hx0⟩ := mRow_ok hok.1 hr
  have e1 : np = pc + 1 := of_decide_eq_true hx0
  subst e1
  obtain ⟨r, sp2, σ2, a1, a2, a3, a4⟩ := k
  exact ⟨r, sp2, σ2, a1, a2, a3, fun p e R s m args below meth c hX b1 b2 b3 b4 => mIst_ok hX (mDec hd0 rfl) hat hlt hi (a4 p e R s m args below meth c hX b1 b2 b3 b4)⟩
theorem mGo_len {pc np a b cc q n : Nat} {v : Int32} {w : Int64} {r : List (Option Nat)} {L : mLs} {t : List Value} {sp : mSh} {σ : mHp} (hok : mOkP md) (hr : mIn md.2.2.2.2.2 pc = some (.arraylength, np, a, b, cc, v, w)) (hat : sp[q]? = some (100, n, r)) (hlt : q < 1000000) (k : mGo g l d md n0 t0 (np, L, .int (nI n) :: t, sp, σ) Post) : mGo g l d md n0 t0 (pc, L, .ref q :: t, sp, σ) Post := by
  obtain ⟨hd0, -, hx0⟩ := mRow_ok hok.1 hr
  have e1 : np = pc + 1 := of_decide_eq_true hx0
  subst e1
  obtain ⟨r, sp2, σ2, a1, a2, a3, a4⟩ := k
  exact ⟨r, sp2, σ2, a1, a2, a3, fun p e R s m args below meth c hX b1 b2 b3 b4 => mAlen_ok hX (mDec hd0 rfl) hat hlt ⟨by decide, by decide⟩ (a4 p e R s m args below meth c hX b1 b2 b3 b4)⟩
end MG
end
section
/-! the cells of the two objects, by their numbers; lk: the present array of links; ex: what was made later -/
def SH (lk : Nat) (ex : mSh) : mSh :=
  (8, 7, [some 1, some 8, some 10, some 13, some 15, some 21, some 31]) ::
  (2, 7, [some 2, some 3, some 4, some 5, some 6, some 7, none]) ::
  (100, 40, []) :: (100, 40, []) :: (100, 40, []) :: (100, 40, []) :: (100, 40, []) :: (101, 40, []) ::
  (3, 2, [some 9, none]) :: (100, 40, []) ::
  (6, 6, [some 1, some 11, some 12, none, none, none]) :: (100, 40, []) :: (100, 40, []) ::
  (7, 2, [some 1, some 14]) :: (100, 40, []) ::
  (1, 6, [some 18, some 16, some 17, none, none, none]) :: (101, 20, []) :: (101, 20, []) ::
  (0, 9, [some 1, some 19, some 20, none, none, none, none, none, none]) :: (100, 120, []) :: (100, 120, []) ::
  (4, 12, [some 1, some 28, some 22, some 23, some 24, some 25, some lk, some 27, none, none, none, none]) ::
  (101, 300, []) :: (101, 300, []) :: (100, 300, []) :: (100, 1024, []) :: (100, 2048, []) :: (100, 301, []) ::
  (0, 9, [some 1, some 29, some 30, none, none, none, none, none, none]) :: (100, 120, []) :: (100, 120, []) ::
  (103, 4, [some 32, some 36, some 40, some 44]) ::
  (5, 5, [some 33, some 34, some 35, none, none]) :: (101, 40, []) :: (102, 40, []) :: (100, 40, []) ::
  (5, 5, [some 37, some 38, some 39, none, none]) :: (101, 40, []) :: (102, 40, []) :: (100, 40, []) ::
  (5, 5, [some 41, some 42, some 43, none, none]) :: (101, 40, []) :: (102, 40, []) :: (100, 40, []) ::
  (5, 5, [some 45, some 46, some 47, none, none]) :: (101, 40, []) :: (102, 40, []) :: (100, 40, []) ::
  (9, 35, [none, some 49, some 50, some 51, none, some 52, none, none, none, none, none, some 53, some 54, some 55, some 56, none, none, none, none, none, some 57, some 58, some 59, none, none, none, none, some 60, some 61, some 62, some 63, some 64, some 65, some 66, some 67]) ::
  (100, 40, []) :: (100, 40, []) :: (100, 40, []) :: (100, 40, []) :: (100, 40, []) :: (100, 40, []) :: (101, 40, []) :: (100, 40, []) ::
  (101, 301, []) :: (101, 301, []) :: (100, 301, []) :: (101, 21, []) :: (101, 21, []) :: (100, 4, []) :: (100, 4, []) ::
  (101, 160, []) :: (102, 160, []) :: (101, 40, []) :: (102, 40, []) :: ex
theorem mdLlen : mdL.length = 199 := by decide +kernel
theorem ok_at {md : mMd} (a : Nat) (h : a < 199) (e : mD a = md) : mOkP md := by
  subst e
  exact mOkP_all (mD_mem (by rw [mdLlen]; exact h))
theorem lt_at {a : Nat} (h : a < 199) : a < mdL.length := by rw [mdLlen]; exact h
/-- method a returns the value v, the cells stay, and P holds of what it leaves -/
def mNR (g : mG) (l : Launch) (d a : Nat) (as : List Value) (lk : Nat) (ex : mSh) (σ : mHp) (v : Value) (P : mHp → Prop) : Prop := mC g l d a as (SH lk ex) σ (fun r sp σ1 => r = some v ∧ sp = SH lk ex ∧ P σ1)
def mNV (g : mG) (l : Launch) (d a : Nat) (as : List Value) (lk : Nat) (ex : mSh) (σ : mHp) (P : mHp → Prop) : Prop := mC g l d a as (SH lk ex) σ (fun r sp σ1 => r = none ∧ sp = SH lk ex ∧ P σ1)
abbrev mNP (g : mG) (l : Launch) (d a : Nat) (as : List Value) (lk : Nat) (ex : mSh) (σ : mHp) (v : Value) : Prop := mNR g l d a as lk ex σ v (fun σ1 => σ1 = σ)
section MG
variable {g : mG} {l : Launch} {d : Nat} {md : mMd} {n0 t0 : Nat} {Post : Option Value → mSh → mHp → Prop}
theorem mGo_callR {pc np a d1 lk : Nat} {L : mLs} {st as t : List Value} {ex : mSh} {σ : mHp} {v : Value} {P : mHp → Prop} (hok : mOkP md) (h : mClF md (pc, L, st, SH lk ex, σ) = some (a, as, np, t)) (hd : d1 + 1 ≤ d) (hc : mNR g l d1 a as lk ex σ v P) (k : ∀ σ1 : mHp, P σ1 → mGo g l d md n0 t0 (np, L, v :: t, SH lk ex, σ1) Post) : mGo g l d md n0 t0 (pc, L, st, SH lk ex, σ) Post :=
  mGo_call hok h hd hc (fun r sp1 σ1 hq => by obtain ⟨rfl, rfl, h3⟩ := hq; exact k σ1 h3)
theorem mGo_callV {pc np a d1 lk : Nat} {L : mLs} {st as t : List Value} {ex : mSh} {σ : mHp} {P : mHp → Prop} (hok : mOkP md) (h : mClF md (pc, L, st, SH lk ex, σ) = some (a, as, np, t)) (hd : d1 + 1 ≤ d) (hc : mNV g l d1 a as lk ex σ P) (k : ∀ σ1 : mHp, P σ1 → mGo g l d md n0 t0 (np, L, t, SH lk ex, σ1) Post) : mGo g l d md n0 t0 (pc, L, st, SH lk ex, σ) Post :=
  mGo_call hok h hd hc (fun r sp1 σ1 hq => by obtain ⟨rfl, rfl, h3⟩ := hq; exact k σ1 h3)
theorem mGo_callP {pc np a d1 lk : Nat} {L : mLs} {st as t : List Value} {ex : mSh} {σ : mHp} {v : Value} (hok : mOkP md) (h : mClF md (pc, L, st, SH lk ex, σ) = some (a, as, np, t)) (hd : d1 + 1 ≤ d) (hc : mNP g l d1 a as lk ex σ v) (k : mGo g l d md n0 t0 (np, L, v :: t, SH lk ex, σ) Post) : mGo g l d md n0 t0 (pc, L, st, SH lk ex, σ) Post :=
  mGo_call hok h hd hc (fun r sp1 σ1 hq => by obtain ⟨rfl, rfl, rfl⟩ := hq; exact k)
end MG
theorem mNR.post {g : mG} {l : Launch} {d a lk : Nat} {as : List Value} {ex : mSh} {σ : mHp} {v v1 : Value} {P P1 : mHp → Prop} (h : mNR g l d a as lk ex σ v P) (hv : v = v1) (hp : ∀ σ1, P σ1 → P1 σ1) : mNR g l d a as lk ex σ v1 P1 :=
  mC_mono h (fun r sp1 σ1 q => ⟨by rw [q.1, hv], q.2.1, hp _ q.2.2⟩)
theorem mNV.post {g : mG} {l : Launch} {d a lk : Nat} {as : List Value} {ex : mSh} {σ : mHp} {P P1 : mHp → Prop} (h : mNV g l d a as lk ex σ P) (hp : ∀ σ1, P σ1 → P1 σ1) : mNV g l d a as lk ex σ P1 :=
  mC_mono h (fun r sp1 σ1 q => ⟨q.1, q.2.1, hp _ q.2.2⟩)
/-- straight steps up to a place -/
def mRunS (md : mMd) (q : Nat) : Nat → mCf → Option mCf
  | 0, cf => some cf
  | n + 1, (pc, L, st, sp, σ) => match mIn md.2.2.2.2.2 pc with
    | none => some (pc, L, st, sp, σ)
    | some r => (match mEx r L st sp σ with
      | none => some (pc, L, st, sp, σ)
      | some (pc1, L1, st1, sp1, σ1) => bif Nat.beq pc1 q then some (pc1, L1, st1, sp1, σ1) else mRunS md q n (pc1, L1, st1, sp1, σ1))
theorem mGo_runS {g : mG} {l : Launch} {d : Nat} {md : mMd} {n0 t0 : Nat} {Post : Option Value → mSh → mHp → Prop} (q : Nat) {n : Nat} : ∀ {cf cf1 : mCf}, mOkP md → mRunS md q n cf = some cf1 → mGo g l d md n0 t0 cf1 Post → mGo g l d md n0 t0 cf Post := by
  induction n with
  | zero => intro cf cf1 _ h k; cases h; exact k
  | succ n ih =>
    intro cf cf1 hok h k
    obtain ⟨pc, L, st, sp, σ⟩ := cf
    simp only [mRunS] at h
    split at h
    · cases h; exact k
    · rename_i r hr
      split at h
      · cases h; exact k
      · rename_i pc1 L1 st1 sp1 σ1 hx
        cases hb : Nat.beq pc1 q with
        | true => rw [hb] at h; cases h; exact mGo_step hok hr hx k
        | false => rw [hb] at h; exact mGo_step hok hr hx (ih hok h k)
end
section
/-! the class Formulas -/
theorem b01 (c : Prop) [Decidable c] : (if c then (1 : Int32) else 0) = 0 ∨ (if c then (1 : Int32) else 0) = 1 := by split <;> simp
/-- an int in a range is a number -/
theorem i_in {f : Int32} {n : Nat} (hn : n < 2 ^ 31) : (0 ≤ f ∧ f < nI n) ↔ ∃ j, j < n ∧ f = nI j := by
  constructor
  · rintro ⟨h1, h2⟩
    obtain ⟨j, hj, rfl⟩ := nI_of (x := f) (Int32.not_lt.mpr h1)
    exact ⟨j, (nI_ltI hj hn).mp h2, rfl⟩
  · rintro ⟨j, hj, rfl⟩
    exact ⟨nI_pos' (by omega), (nI_ltI (by omega) hn).mpr hj⟩
/-- formulas: how many, kinds, parts A and B (of a negation B is 0, of an atom both are) -/
abbrev aF : Type := Nat × (Nat → Nat) × (Nat → Nat) × (Nat → Nat)
abbrev aN (F : aF) : Nat := F.1
abbrev aK (F : aF) : Nat → Nat := F.2.1
abbrev aA (F : aF) : Nat → Nat := F.2.2.1
abbrev aB (F : aF) : Nat → Nat := F.2.2.2
def fOk (F : aF) : Prop := 4 ≤ aN F ∧ aN F ≤ 40 ∧ ∀ j, j < aN F → (aK F j = 0 ↔ j < 4) ∧ aK F j ≤ 4 ∧ (aK F j ≠ 0 → aA F j < j) ∧ (2 ≤ aK F j → aB F j < j) ∧ (aK F j < 2 → aB F j = 0) ∧ (aK F j = 0 → aA F j = 0)
def cF (σ : mHp) (F : aF) : Prop := σ.1 1 6 = nI (aN F) ∧ ∀ j, j < aN F → σ.1 2 j = nI (aK F j) ∧ σ.1 3 j = (if aK F j = 0 then -1 else nI (aA F j)) ∧ σ.1 4 j = (if aK F j < 2 then -1 else nI (aB F j))
/-- the first number from k on, of m, with a property -/
def fnd (p : Nat → Prop) [DecidablePred p] : Nat → Nat → Option Nat
  | _, 0 => none
  | k, m + 1 => if p k then some k else fnd p (k + 1) m
theorem fnd_some {p : Nat → Prop} [DecidablePred p] : ∀ {m k j : Nat}, fnd p k m = some j → k ≤ j ∧ j < k + m ∧ p j ∧ ∀ i, k ≤ i → i < j → ¬ p i := by
  intro m
  induction m with
  | zero => intro k j h; simp [fnd] at h
  | succ m ih =>
    intro k j h
    simp only [fnd] at h
    by_cases hp : p k
    · rw [if_pos hp] at h; cases h; exact ⟨Nat.le_refl _, by omega, hp, fun i h1 h2 => by omega⟩
    · rw [if_neg hp] at h
      obtain ⟨h1, h2, h3, h4⟩ := ih h
      exact ⟨by omega, by omega, h3, fun i g1 g2 => by
        rcases Nat.eq_or_lt_of_le g1 with q | q
        · subst q; exact hp
        · exact h4 i q g2⟩
theorem fnd_none {p : Nat → Prop} [DecidablePred p] : ∀ {m k : Nat}, fnd p k m = none → ∀ i, k ≤ i → i < k + m → ¬ p i := by
  intro m
  induction m with
  | zero => intro k h i h1 h2; omega
  | succ m ih =>
    intro k h i h1 h2
    simp only [fnd] at h
    by_cases hp : p k
    · rw [if_pos hp] at h; cases h
    · rw [if_neg hp] at h
      rcases Nat.eq_or_lt_of_le h1 with q | q
      · subst q; exact hp
      · exact ih h i q (by omega)
theorem fnd_congr {p q : Nat → Prop} [DecidablePred p] [DecidablePred q] : ∀ {m k : Nat}, (∀ i, k ≤ i → i < k + m → (p i ↔ q i)) → fnd p k m = fnd q k m := by
  intro m
  induction m with
  | zero => intro k h; rfl
  | succ m ih =>
    intro k h
    have e := h k (Nat.le_refl _) (by omega)
    simp only [fnd]
    rw [ih (fun i h1 h2 => h i (by omega) (by omega))]
    by_cases hp : p k
    · rw [if_pos hp, if_pos (e.mp hp)]
    · rw [if_neg hp, if_neg (fun z => hp (e.mpr z))]
section T
variable {g : mG} {l : Launch} {d : Nat} {lk : Nat} {ex : mSh} {σ : mHp} {n : Nat} {F : aF}
theorem c_has (f : Int32) : mNP g l d 19 [.ref 1, .int f] lk ex σ (.int (if 0 ≤ f ∧ f < σ.1 1 6 then 1 else 0)) := by
  have ok : mOkP md_X2_has := ok_at 19 (by decide) rfl
  refine mC_of (md := md_X2_has) rfl (lt_at (by decide)) rfl ?_
  refine mGo_run (n := 400) ok rfl ?_
  refine mGo_if ok rfl (fun h => ?_) (fun h => ?_)
  · refine mGo_run (n := 400) ok rfl ?_
    have e : (if 0 ≤ f ∧ f < σ.1 1 6 then (1 : Int32) else 0) = 0 := if_neg (fun q => absurd h (Int32.not_lt.mpr q.1))
    rw [e]
    exact mGo_ret ok rfl (Or.inl rfl) (⟨rfl, rfl, rfl⟩)
  · refine mGo_run (n := 400) ok rfl ?_
    refine mGo_if ok rfl (fun h1 => ?_) (fun h1 => ?_)
    · refine mGo_run (n := 400) ok rfl ?_
      have e : (if 0 ≤ f ∧ f < σ.1 1 6 then (1 : Int32) else 0) = 0 := if_neg (fun q => absurd q.2 (Int32.not_lt.mpr h1))
      rw [e]
      exact mGo_ret ok rfl (Or.inl rfl) (⟨rfl, rfl, rfl⟩)
    · refine mGo_run (n := 400) ok rfl ?_
      have e : (if 0 ≤ f ∧ f < σ.1 1 6 then (1 : Int32) else 0) = 1 := if_pos ⟨Int32.not_lt.mp h, Int32.not_le.mp h1⟩
      rw [e]
      exact mGo_ret ok rfl (Or.inr rfl) (⟨rfl, rfl, rfl⟩)
theorem c_has1 (hc : σ.1 1 6 = nI n) (hn : n ≤ 40) {j : Nat} (hj : j < n) : mNP g l d 19 [.ref 1, .int (nI j)] lk ex σ (.int 1) := by
  have h := c_has (g := g) (l := l) (d := d) (lk := lk) (ex := ex) (σ := σ) (nI j)
  rw [hc, if_pos ((i_in (by omega)).mpr ⟨j, hj, rfl⟩)] at h
  exact h
theorem c_has0 (hc : σ.1 1 6 = nI n) (hn : n ≤ 40) {f : Int32} (hf : ¬ ∃ j, j < n ∧ f = nI j) : mNP g l d 19 [.ref 1, .int f] lk ex σ (.int 0) := by
  have h := c_has (g := g) (l := l) (d := d) (lk := lk) (ex := ex) (σ := σ) f
  rw [hc, if_neg (fun q => hf ((i_in (by omega)).mp q))] at h
  exact h
theorem c_kindOf (hn : aN F ≤ 40) (hc : cF σ F) {j : Nat} (hj : j < aN F) : mNP g l d 20 [.ref 1, .int (nI j)] lk ex σ (.int (nI (aK F j))) := by
  have ok : mOkP md_X2_kindOf := ok_at 20 (by decide) rfl
  refine mC_of (md := md_X2_kindOf) rfl (lt_at (by decide)) rfl ?_
  refine mGo_run (n := 400) ok rfl ?_
  refine mGo_if ok rfl (fun h => ?_) (fun h => ?_)
  · exact absurd h (nI_pos (by omega))
  · refine mGo_run (n := 400) ok rfl ?_
    refine mGo_if ok rfl (fun h1 => ?_) (fun h1 => ?_)
    · rw [hc.1] at h1
      exact absurd h1 (nI_ge hj (by omega))
    · refine mGo_run (n := 400) ok rfl ?_
      refine mGo_side ok rfl (nI_in (by omega) (by omega)) ?_
      refine mGo_run (n := 400) ok rfl ?_
      exact mGo_ret ok rfl trivial (⟨by rw [nI_clamp (by omega), (hc.2 j hj).1], rfl, rfl⟩)
theorem c_firstOf (hn : aN F ≤ 40) (hc : cF σ F) {j : Nat} (hj : j < aN F) : mNP g l d 21 [.ref 1, .int (nI j)] lk ex σ (.int (if aK F j = 0 then -1 else nI (aA F j))) := by
  have ok : mOkP md_X2_firstOf := ok_at 21 (by decide) rfl
  refine mC_of (md := md_X2_firstOf) rfl (lt_at (by decide)) rfl ?_
  refine mGo_run (n := 400) ok rfl ?_
  refine mGo_if ok rfl (fun h => ?_) (fun h => ?_)
  · exact absurd h (nI_pos (by omega))
  · refine mGo_run (n := 400) ok rfl ?_
    refine mGo_if ok rfl (fun h1 => ?_) (fun h1 => ?_)
    · rw [hc.1] at h1
      exact absurd h1 (nI_ge hj (by omega))
    · refine mGo_run (n := 400) ok rfl ?_
      refine mGo_side ok rfl (nI_in (by omega) (by omega)) ?_
      refine mGo_run (n := 400) ok rfl ?_
      exact mGo_ret ok rfl trivial (⟨by rw [nI_clamp (by omega), (hc.2 j hj).2.1], rfl, rfl⟩)
theorem c_secondOf (hn : aN F ≤ 40) (hc : cF σ F) {j : Nat} (hj : j < aN F) : mNP g l d 22 [.ref 1, .int (nI j)] lk ex σ (.int (if aK F j < 2 then -1 else nI (aB F j))) := by
  have ok : mOkP md_X2_secondOf := ok_at 22 (by decide) rfl
  refine mC_of (md := md_X2_secondOf) rfl (lt_at (by decide)) rfl ?_
  refine mGo_run (n := 400) ok rfl ?_
  refine mGo_if ok rfl (fun h => ?_) (fun h => ?_)
  · exact absurd h (nI_pos (by omega))
  · refine mGo_run (n := 400) ok rfl ?_
    refine mGo_if ok rfl (fun h1 => ?_) (fun h1 => ?_)
    · rw [hc.1] at h1
      exact absurd h1 (nI_ge hj (by omega))
    · refine mGo_run (n := 400) ok rfl ?_
      refine mGo_side ok rfl (nI_in (by omega) (by omega)) ?_
      refine mGo_run (n := 400) ok rfl ?_
      exact mGo_ret ok rfl trivial (⟨by rw [nI_clamp (by omega), (hc.2 j hj).2.2], rfl, rfl⟩)
/-- how many attacks there are on a formula of a kind -/
def atk (k : Nat) : Nat := if k = 0 then 0 else if k = 2 then 2 else 1
theorem c_attacksOn (hf : fOk F) (hc : cF σ F) {j : Nat} (hj : j < aN F) : mNP g l (d + 1) 23 [.ref 1, .int (nI j)] lk ex σ (.int (nI (atk (aK F j)))) := by
  obtain ⟨h4, h40, hw⟩ := hf
  have hk : aK F j ≤ 4 := (hw j hj).2.1
  have ok : mOkP md_X2_attacksOn := ok_at 23 (by decide) rfl
  refine mC_of (md := md_X2_attacksOn) rfl (lt_at (by decide)) rfl ?_
  refine mGo_run (n := 400) ok rfl ?_
  refine mGo_callP ok rfl (by omega) (c_kindOf (d := d) h40 hc hj) ?_
  refine mGo_run (n := 400) ok rfl ?_
  refine mGo_if ok rfl (fun h => ?_) (fun h => ?_)
  · have e : aK F j = 0 := (nI_eq (a := aK F j) (b := 0) (by omega) (by omega)).mp h
    refine mGo_run (n := 400) ok rfl ?_
    exact mGo_ret ok rfl trivial (⟨by rw [e]; rfl, rfl, rfl⟩)
  · have e : aK F j ≠ 0 := fun z => h (by rw [z]; rfl)
    refine mGo_run (n := 400) ok rfl ?_
    refine mGo_if ok rfl (fun h1 => ?_) (fun h1 => ?_)
    · have e1 : aK F j = 2 := (nI_eq (a := aK F j) (b := 2) (by omega) (by omega)).mp h1
      refine mGo_run (n := 400) ok rfl ?_
      exact mGo_ret ok rfl trivial (⟨by rw [e1]; rfl, rfl, rfl⟩)
    · have e1 : aK F j ≠ 2 := fun z => h1 (by rw [z]; rfl)
      refine mGo_run (n := 400) ok rfl ?_
      exact mGo_ret ok rfl trivial (⟨by rw [atk, if_neg e, if_neg e1]; rfl, rfl, rfl⟩)
theorem c_shrinkTo (hc : σ.1 1 6 = nI n) (hn : n ≤ 40) {k : Nat} (h4 : 4 ≤ k) (hk : k ≤ n) : mNV g l d 24 [.ref 1, .int (nI k)] lk ex σ (fun σ1 => σ1 = mWI σ 1 6 (nI k)) := by
  have ok : mOkP md_X2_shrinkTo := ok_at 24 (by decide) rfl
  refine mC_of (md := md_X2_shrinkTo) rfl (lt_at (by decide)) rfl ?_
  refine mGo_run (n := 400) ok rfl ?_
  refine mGo_if ok rfl (fun h => ?_) (fun h => ?_)
  · exact absurd ((nI_ltI (a := k) (b := 4) (by omega) (by omega)).mp h) (by omega)
  · refine mGo_run (n := 400) ok rfl ?_
    refine mGo_if ok rfl (fun h1 => ?_) (fun h1 => ?_)
    · rw [hc] at h1
      exact absurd ((nI_ltI (a := n) (b := k) (by omega) (by omega)).mp h1) (by omega)
    · refine mGo_run (n := 400) ok rfl ?_
      exact mGo_ret ok rfl trivial (⟨rfl, rfl, rfl⟩)
/-- the first formula with a kind and parts -/
def fF (F : aF) (k a b : Nat) : Option Nat := fnd (fun j => aK F j = k ∧ aA F j = a ∧ aB F j = b) 4 (aN F - 4)
def oI (o : Option Nat) : Int32 := match o with
  | none => -1
  | some j => nI j
theorem c_find (hf : fOk F) (hc : cF σ F) {k a b : Nat} (hk : 1 ≤ k ∧ k ≤ 4) (ha : a < aN F) (hb : b < aN F) (hb1 : k = 1 → b = 0) : mNP g l d 27 [.ref 1, .int (nI k), .int (nI a), .int (if k < 2 then -1 else nI b)] lk ex σ (.int (oI (fF F k a b))) := by
  obtain ⟨h4, h40, hw⟩ := hf
  have ok : mOkP md_X2_find := ok_at 27 (by decide) rfl
  refine mC_of (md := md_X2_find) rfl (lt_at (by decide)) rfl ?_
  refine mGo_runS 3 (n := 400) ok rfl ?_
  have loop : ∀ m i : Nat, i + m = aN F → 4 ≤ i → mGo g l d md_X2_find (SH lk ex).length (mTot (SH lk ex)) (3, [some (.ref 1), some (.int (nI k)), some (.int (nI a)), some (.int (if k < 2 then -1 else nI b)), some (.int (nI i))], [], SH lk ex, σ) (fun r sp σ1 => r = some (.int (oI (fnd (fun j => aK F j = k ∧ aA F j = a ∧ aB F j = b) i m))) ∧ sp = SH lk ex ∧ σ1 = σ) := by
    intro m
    induction m with
    | zero =>
      intro i hi h4i
      refine mGo_run (n := 400) ok rfl ?_
      refine mGo_if ok rfl (fun h => ?_) (fun h => ?_)
      · refine mGo_run (n := 400) ok rfl ?_
        exact mGo_ret ok rfl trivial (⟨rfl, rfl, rfl⟩)
      · rw [hc.1] at h
        exact absurd (nI_le (show aN F ≤ i by omega) (by omega)) h
    | succ m ih =>
      intro i hi h4i
      have hin : i < aN F := by omega
      obtain ⟨w1, w2, w3, w4, w5, w6⟩ := hw i hin
      obtain ⟨c1, c2, c3⟩ := hc.2 i hin
      have hK0 : aK F i ≠ 0 := fun z => by have := w1.mp z; omega
      have hA : aA F i < i := w3 hK0
      have next : ¬ (aK F i = k ∧ aA F i = a ∧ aB F i = b) → mGo g l d md_X2_find (SH lk ex).length (mTot (SH lk ex)) (3, [some (.ref 1), some (.int (nI k)), some (.int (nI a)), some (.int (if k < 2 then -1 else nI b)), some (.int (nI (i + 1)))], [], SH lk ex, σ) (fun r sp σ1 => r = some (.int (oI (fnd (fun j => aK F j = k ∧ aA F j = a ∧ aB F j = b) i (m + 1)))) ∧ sp = SH lk ex ∧ σ1 = σ) := by
        intro hne
        simp only [fnd, if_neg hne]
        exact ih (i + 1) (by omega) (by omega)
      refine mGo_run (n := 400) ok rfl ?_
      refine mGo_if ok rfl (fun h => ?_) (fun h => ?_)
      · rw [hc.1] at h
        exact absurd h (nI_ge hin (by omega))
      · refine mGo_run (n := 400) ok rfl ?_
        refine mGo_side ok rfl (nI_in (by omega) (by omega)) ?_
        refine mGo_run (n := 400) ok rfl ?_
        refine mGo_if ok rfl (fun h1 => ?_) (fun h1 => ?_)
        · rw [nI_clamp (by omega), c1, nI_eq (by omega) (by omega)] at h1
          refine mGo_run (n := 400) ok rfl ?_
          refine mGo_side ok rfl (nI_in (by omega) (by omega)) ?_
          refine mGo_run (n := 400) ok rfl ?_
          refine mGo_if ok rfl (fun h2 => ?_) (fun h2 => ?_)
          · rw [nI_clamp (by omega), c2, if_neg hK0, nI_eq (by omega) (by omega)] at h2
            refine mGo_run (n := 400) ok rfl ?_
            refine mGo_side ok rfl (nI_in (by omega) (by omega)) ?_
            refine mGo_run (n := 400) ok rfl ?_
            refine mGo_if ok rfl (fun h3 => ?_) (fun h3 => ?_)
            · rw [nI_clamp (by omega), c3, h1] at h3
              have e3 : aB F i = b := by
                by_cases hk2 : k < 2
                · rw [w5 (by omega), hb1 (by omega)]
                · rw [if_neg hk2, if_neg hk2, nI_eq (by have := w4 (by omega); omega) (by omega)] at h3
                  exact h3
              refine mGo_run (n := 400) ok rfl ?_
              exact mGo_ret ok rfl trivial (⟨by simp only [fnd, if_pos (show aK F i = k ∧ aA F i = a ∧ aB F i = b from ⟨h1, h2, e3⟩)]; rfl, rfl, rfl⟩)
            · refine mGo_runS 3 (n := 400) ok rfl ?_
              rw [nI_1]
              refine next (fun z => h3 ?_)
              rw [nI_clamp (by omega), c3, z.1, z.2.2]
          · refine mGo_runS 3 (n := 400) ok rfl ?_
            rw [nI_1]
            refine next (fun z => h2 ?_)
            rw [nI_clamp (by omega), c2, if_neg hK0, z.2.1]
        · refine mGo_runS 3 (n := 400) ok rfl ?_
          rw [nI_1]
          refine next (fun z => h1 ?_)
          rw [nI_clamp (by omega), c1, z.1]
  exact loop (aN F - 4) 4 (by omega) (by omega)
end T
end
section
/-! numbers of the library; a formula is made -/
section T
variable {g : mG} {l : Launch} {d : Nat} {lk : Nat} {ex : mSh} {σ : mHp}
theorem c_max (x y : Int32) : mNP g l d 193 [.int x, .int y] lk ex σ (.int (if x < y then y else x)) := by
  have ok : mOkP md_J9_max := ok_at 193 (by decide) rfl
  refine mC_of (md := md_J9_max) rfl (lt_at (by decide)) rfl ?_
  refine mGo_run (n := 400) ok rfl ?_
  refine mGo_if ok rfl (fun h => ?_) (fun h => ?_)
  · refine mGo_run (n := 400) ok rfl ?_
    exact mGo_ret ok rfl trivial (⟨by rw [if_pos h], rfl, rfl⟩)
  · refine mGo_run (n := 400) ok rfl ?_
    exact mGo_ret ok rfl trivial (⟨by rw [if_neg h], rfl, rfl⟩)
theorem c_min (x y : Int32) : mNP g l d 194 [.int x, .int y] lk ex σ (.int (if y < x then y else x)) := by
  have ok : mOkP md_J9_min := ok_at 194 (by decide) rfl
  refine mC_of (md := md_J9_min) rfl (lt_at (by decide)) rfl ?_
  refine mGo_run (n := 400) ok rfl ?_
  refine mGo_if ok rfl (fun h => ?_) (fun h => ?_)
  · refine mGo_run (n := 400) ok rfl ?_
    exact mGo_ret ok rfl trivial (⟨by rw [if_pos h], rfl, rfl⟩)
  · refine mGo_run (n := 400) ok rfl ?_
    exact mGo_ret ok rfl trivial (⟨by rw [if_neg h], rfl, rfl⟩)
end T
/-- nothing has changed but cells from lo on, below hi -/
def fr (lo hi : Nat) (σ σ1 : mHp) : Prop := ∀ i, ¬ (lo ≤ i ∧ i < hi) → σ1.1 i = σ.1 i ∧ σ1.2.1 i = σ.2.1 i ∧ σ1.2.2 i = σ.2.2 i
theorem fr.refl {lo hi : Nat} {σ : mHp} : fr lo hi σ σ := fun _ _ => ⟨rfl, rfl, rfl⟩
theorem fr.trans {lo hi : Nat} {σ σ1 σ2 : mHp} (h1 : fr lo hi σ σ1) (h2 : fr lo hi σ1 σ2) : fr lo hi σ σ2 := fun i hi => by
  obtain ⟨a, b, c⟩ := h1 i hi
  obtain ⟨x, y, z⟩ := h2 i hi
  exact ⟨x.trans a, y.trans b, z.trans c⟩
theorem fr.wide {lo hi lo2 hi2 : Nat} {σ σ1 : mHp} (h : fr lo hi σ σ1) (h1 : lo2 ≤ lo) (h2 : hi ≤ hi2) : fr lo2 hi2 σ σ1 := fun i hi => h i (fun q => hi ⟨by omega, by omega⟩)
theorem fr.WI {lo hi i k : Nat} {v : Int32} {σ σ1 : mHp} (h : fr lo hi σ σ1) (h1 : lo ≤ i) (h2 : i < hi) : fr lo hi σ (mWI σ1 i k v) := fun j hj => by
  obtain ⟨a, b, c⟩ := h j hj
  exact ⟨by rw [← a]; simp only [mWI]; rw [if_neg (fun z => hj ⟨by omega, by omega⟩)], b, c⟩
theorem fr.WL {lo hi i k : Nat} {v : Int64} {σ σ1 : mHp} (h : fr lo hi σ σ1) (h1 : lo ≤ i) (h2 : i < hi) : fr lo hi σ (mWL σ1 i k v) := fun j hj => by
  obtain ⟨a, b, c⟩ := h j hj
  exact ⟨a, by rw [← b]; simp only [mWL]; rw [if_neg (fun z => hj ⟨by omega, by omega⟩)], c⟩
theorem fr.WD {lo hi i k : Nat} {v : UInt64} {σ σ1 : mHp} (h : fr lo hi σ σ1) (h1 : lo ≤ i) (h2 : i < hi) : fr lo hi σ (mWD σ1 i k v) := fun j hj => by
  obtain ⟨a, b, c⟩ := h j hj
  exact ⟨a, b, by rw [← c]; simp only [mWD]; rw [if_neg (fun z => hj ⟨by omega, by omega⟩)]⟩
theorem WI_at (σ : mHp) (i k a b : Nat) (v : Int32) : (mWI σ i k v).1 a b = if a = i ∧ b = k then v else σ.1 a b := by
  simp only [mWI, upd]
  by_cases h : a = i
  · subst h
    by_cases h2 : b = k <;> simp [h2, upd]
  · simp [h]
theorem WL_at (σ : mHp) (i k a b : Nat) (v : Int64) : (mWL σ i k v).2.1 a b = if a = i ∧ b = k then v else σ.2.1 a b := by
  simp only [mWL, vp_updL]
  by_cases h : a = i
  · subst h
    by_cases h2 : b = k <;> simp [h2, vp_updL]
  · simp [h]
theorem WD_at (σ : mHp) (i k a b : Nat) (v : UInt64) : (mWD σ i k v).2.2 a b = if a = i ∧ b = k then v else σ.2.2 a b := by
  simp only [mWD, vf_upd]
  by_cases h : a = i
  · subst h
    by_cases h2 : b = k <;> simp [h2, vf_upd]
  · simp [h]
theorem aN_mk (n : Nat) (K A B : Nat → Nat) : aN (n, K, A, B) = n := rfl
theorem aK_mk (n : Nat) (K A B : Nat → Nat) : aK (n, K, A, B) = K := rfl
theorem aA_mk (n : Nat) (K A B : Nat → Nat) : aA (n, K, A, B) = A := rfl
theorem aB_mk (n : Nat) (K A B : Nat → Nat) : aB (n, K, A, B) = B := rfl
/-- the long with the bit j alone -/
def bit (j : Nat) : Int64 := (1 : Int64) <<< ((nI j).toInt64 &&& 63)
def atT (j : Nat) : Int32 := if j = 0 then 43690 else if j = 1 then 52428 else if j = 2 then 61680 else 65280
/-- tables of the compound formulas: of the kind, and of the parts' tables -/
def tbK (k : Nat) (x y : Int32) : Int32 := if k = 1 then (x ^^^ (-1)) &&& 65535 else if k = 2 then x &&& y else if k = 3 then x ||| y else ((x ^^^ (-1)) ||| y) &&& 65535
def szR (F : aF) (s : Nat → Int32) (j : Nat) : Int32 := if aK F j = 0 then 1 else if 1 + s (aA F j) + (if aK F j = 1 then 0 else s (aB F j)) < 1000 then 1 + s (aA F j) + (if aK F j = 1 then 0 else s (aB F j)) else 1000
def tbR (F : aF) (t : Nat → Int32) (j : Nat) : Int32 := if aK F j = 0 then atT j else tbK (aK F j) (t (aA F j)) (if aK F j = 1 then 0 else t (aB F j))
def sbR (F : aF) (s : Nat → Int64) (j : Nat) : Int64 := if aK F j = 0 then bit j else (bit j ||| s (aA F j)) ||| (if aK F j = 1 then 0 else s (aB F j))
/-- what is known of each formula since it was made -/
def cS (σ : mHp) (F : aF) : Prop := ∀ j, j < aN F → σ.1 5 j = szR F (σ.1 5) j ∧ σ.1 6 j = tbR F (σ.1 6) j ∧ σ.2.1 7 j = sbR F (σ.2.1 7) j
def up (f : Nat → Nat) (i v : Nat) : Nat → Nat := fun j => if j = i then v else f j
/-- a formula is made, or found; none: there is no room -/
def aMk (F : aF) (k a b : Nat) : Option Nat × aF := match fF F k a b with
  | some j => (some j, F)
  | none => if aN F < 40 then (some (aN F), (aN F + 1, up (aK F) (aN F) k, up (aA F) (aN F) a, up (aB F) (aN F) b)) else (none, F)
def oR (o : Option Nat) : Int32 := match o with
  | none => -3
  | some j => nI j
theorem aMk_ok {F : aF} (hf : fOk F) {k a b : Nat} (hk : 1 ≤ k ∧ k ≤ 4) (ha : a < aN F) (hb : b < aN F) (hb1 : k = 1 → b = 0) : fOk (aMk F k a b).2 ∧ (∀ j, (aMk F k a b).1 = some j → j < aN (aMk F k a b).2) ∧ aN F ≤ aN (aMk F k a b).2 := by
  unfold aMk
  cases h : fF F k a b with
  | some j =>
    refine ⟨hf, fun i hi => ?_, Nat.le_refl _⟩
    cases hi
    have := fnd_some h
    have := hf.1
    show j < aN F
    omega
  | none =>
    by_cases hn : aN F < 40
    · simp only [if_pos hn]
      obtain ⟨h4, h40, hw⟩ := hf
      refine ⟨⟨by show 4 ≤ aN F + 1; omega, by show aN F + 1 ≤ 40; omega, fun j hj => ?_⟩, fun i hi => by cases hi; show aN F < aN F + 1; omega, by show aN F ≤ aN F + 1; omega⟩
      have hj : j < aN F + 1 := hj
      show (up (aK F) (aN F) k j = 0 ↔ j < 4) ∧ up (aK F) (aN F) k j ≤ 4 ∧ (up (aK F) (aN F) k j ≠ 0 → up (aA F) (aN F) a j < j) ∧ (2 ≤ up (aK F) (aN F) k j → up (aB F) (aN F) b j < j) ∧ (up (aK F) (aN F) k j < 2 → up (aB F) (aN F) b j = 0) ∧ (up (aK F) (aN F) k j = 0 → up (aA F) (aN F) a j = 0)
      by_cases he : j = aN F
      · subst he
        simp only [up, if_true]
        exact ⟨by omega, hk.2, fun _ => ha, fun _ => hb, fun h => hb1 (by omega), fun h => by omega⟩
      · simp only [up, if_neg he]
        exact hw j (by omega)
    · simp only [if_neg hn]
      exact ⟨hf, (fun i hi => by cases hi), Nat.le_refl _⟩
section T
variable {g : mG} {l : Launch} {d : Nat} {lk : Nat} {ex : mSh} {σ : mHp} {F : aF}
theorem c_tableOf {k : Nat} (hk : 1 ≤ k ∧ k ≤ 4) (x y : Int32) : mNP g l d 28 [.int (nI k), .int x, .int y] lk ex σ (.int (tbK k x y)) := by
  have ok : mOkP md_X2_tableOf := ok_at 28 (by decide) rfl
  refine mC_of (md := md_X2_tableOf) rfl (lt_at (by decide)) rfl ?_
  refine mGo_run (n := 400) ok rfl ?_
  refine mGo_sw ok rfl ⟨fun h => ?_, fun h => ⟨fun h1 => ?_, fun h1 => ⟨fun h2 => ?_, fun h2 => ?_⟩⟩⟩
  · have e : k = 1 := (nI_eq (a := k) (b := 1) (by omega) (by omega)).mp h
    refine mGo_run (n := 400) ok rfl ?_
    exact mGo_ret ok rfl trivial (⟨by rw [tbK, if_pos e], rfl, rfl⟩)
  · have e : k = 2 := (nI_eq (a := k) (b := 2) (by omega) (by omega)).mp h1
    refine mGo_run (n := 400) ok rfl ?_
    exact mGo_ret ok rfl trivial (⟨by rw [tbK, if_neg (by omega), if_pos e], rfl, rfl⟩)
  · have e : k = 3 := (nI_eq (a := k) (b := 3) (by omega) (by omega)).mp h2
    refine mGo_run (n := 400) ok rfl ?_
    exact mGo_ret ok rfl trivial (⟨by rw [tbK, if_neg (by omega), if_neg (by omega), if_pos e], rfl, rfl⟩)
  · have e1 : k ≠ 1 := fun z => h (by rw [z]; rfl)
    have e2 : k ≠ 2 := fun z => h1 (by rw [z]; rfl)
    have e3 : k ≠ 3 := fun z => h2 (by rw [z]; rfl)
    refine mGo_run (n := 400) ok rfl ?_
    exact mGo_ret ok rfl trivial (⟨by rw [tbK, if_neg e1, if_neg e2, if_neg e3], rfl, rfl⟩)
/-- what a new formula is, in the tables -/
theorem mk_new {σ1 : mHp} (hf : fOk F) (hc : cF σ F) (hs : cS σ F) {k a b : Nat} (hk : 1 ≤ k ∧ k ≤ 4) (ha : a < aN F) (hb : b < aN F) (h0 : fF F k a b = none) (hn : aN F < 40) {S T : Int32} {U : Int64} (hS : S = if 1 + σ.1 5 a + (if k = 1 then 0 else σ.1 5 b) < 1000 then 1 + σ.1 5 a + (if k = 1 then 0 else σ.1 5 b) else 1000) (hT : T = tbK k (σ.1 6 a) (if k = 1 then 0 else σ.1 6 b)) (hU : U = (bit (aN F) ||| σ.2.1 7 a) ||| (if k = 1 then 0 else σ.2.1 7 b))
    (h1 : σ1 = mWI (mWL (mWI (mWI (mWI (mWI (mWI σ 2 (aN F) (nI k)) 3 (aN F) (nI a)) 4 (aN F) (if k < 2 then -1 else nI b)) 5 (aN F) S) 6 (aN F) T) 7 (aN F) U) 1 6 (nI (aN F + 1))) : fr 1 8 σ σ1 ∧ cF σ1 (aMk F k a b).2 ∧ cS σ1 (aMk F k a b).2 := by
  subst h1
  have e : aMk F k a b = (some (aN F), (aN F + 1, up (aK F) (aN F) k, up (aA F) (aN F) a, up (aB F) (aN F) b)) := by
    unfold aMk; rw [h0]; simp only [if_pos hn]
  rw [e]
  refine ⟨((((((((fr.refl.WI (by decide) (by decide)).WI (by decide) (by decide)).WI (by decide) (by decide)).WI (by decide) (by decide)).WI (by decide) (by decide)).WL (by decide) (by decide)).WI (by decide) (by decide))), ⟨?_, fun j hj => ?_⟩, fun j hj => ?_⟩
  · simp only [WI_at, and_self, if_true]
  · have hj : j < aN F + 1 := hj
    by_cases he : j = aN F
    · subst he
      have x0 : k ≠ 0 := by omega
      refine ⟨?_, ?_, ?_⟩
      · simp [aN_mk, aK_mk, aA_mk, aB_mk, WI_at, mWL, up]
      · simp [aN_mk, aK_mk, aA_mk, aB_mk, WI_at, mWL, up, x0]
      · simp [aN_mk, aK_mk, aA_mk, aB_mk, WI_at, mWL, up]
    · obtain ⟨c1, c2, c3⟩ := hc.2 j (by omega)
      refine ⟨?_, ?_, ?_⟩
      · simp [aN_mk, aK_mk, aA_mk, aB_mk, WI_at, mWL, up, he, c1]
      · simp [aN_mk, aK_mk, aA_mk, aB_mk, WI_at, mWL, up, he, c2]
      · simp [aN_mk, aK_mk, aA_mk, aB_mk, WI_at, mWL, up, he, c3]
  · have hj : j < aN F + 1 := hj
    have na : a ≠ aN F := by omega
    have nb : b ≠ aN F := by omega
    by_cases he : j = aN F
    · subst he
      have x0 : k ≠ 0 := by omega
      refine ⟨?_, ?_, ?_⟩
      · simp [aN_mk, aK_mk, aA_mk, aB_mk, szR, WI_at, mWL, up, x0, na, nb, hS]
      · simp [aN_mk, aK_mk, aA_mk, aB_mk, tbR, WI_at, mWL, up, x0, na, nb, hT]
      · simp [aN_mk, aK_mk, aA_mk, aB_mk, sbR, mWI, WL_at, up, x0, na, nb, hU]
    · obtain ⟨c1, c2, c3⟩ := hs j (by omega)
      obtain ⟨w1, w2, w3, w4, w5, w6⟩ := hf.2.2 j (by omega)
      have q1 : aA F j ≠ aN F := by
        by_cases z : aK F j = 0
        · rw [w6 z]; omega
        · have := w3 z; omega
      have q2 : aB F j ≠ aN F := by
        by_cases z : aK F j < 2
        · rw [w5 z]; omega
        · have := w4 (by omega); omega
      refine ⟨?_, ?_, ?_⟩
      · simp [aN_mk, aK_mk, aA_mk, aB_mk, szR, WI_at, mWL, up, he, q1, q2]
        rw [c1]; simp only [szR]
      · simp [aN_mk, aK_mk, aA_mk, aB_mk, tbR, WI_at, mWL, up, he, q1, q2]
        rw [c2]; simp only [tbR]
      · simp [aN_mk, aK_mk, aA_mk, aB_mk, sbR, mWI, WL_at, up, he, q1, q2]
        rw [c3]; simp only [sbR]
set_option maxHeartbeats 1000000 in
theorem c_make (hf : fOk F) (hc : cF σ F) (hs : cS σ F) {k a b : Nat} (hk : 1 ≤ k ∧ k ≤ 4) (ha : a < aN F) (hb : b < aN F) (hb1 : k = 1 → b = 0) : mNR g l (d + 1) 26 [.ref 1, .int (nI k), .int (nI a), .int (if k < 2 then -1 else nI b)] lk ex σ (.int (oR (aMk F k a b).1)) (fun σ1 => fr 1 8 σ σ1 ∧ cF σ1 (aMk F k a b).2 ∧ cS σ1 (aMk F k a b).2) := by
  obtain ⟨h4, h40, hw⟩ := id hf
  have ok : mOkP md_X2_make := ok_at 26 (by decide) rfl
  refine mC_of (md := md_X2_make) rfl (lt_at (by decide)) rfl ?_
  have main : ∀ s : Int32, s = (if k = 1 then 1 else 0) → mGo g l (d + 1) md_X2_make (SH lk ex).length (mTot (SH lk ex)) (12, [some (.ref 1), some (.int (nI k)), some (.int (nI a)), some (.int (if k < 2 then -1 else nI b)), some (.int s), none, none], [], SH lk ex, σ) (fun r sp σ1 => r = some (.int (oR (aMk F k a b).1)) ∧ sp = SH lk ex ∧ (fr 1 8 σ σ1 ∧ cF σ1 (aMk F k a b).2 ∧ cS σ1 (aMk F k a b).2)) := by
    intro s hs1
    refine mGo_run (n := 400) ok rfl ?_
    refine mGo_callP ok rfl (by omega) (c_has1 (d := d) hc.1 h40 ha) ?_
    refine mGo_run (n := 400) ok rfl ?_
    refine mGo_if ok rfl (fun h => ?_) (fun h => ?_)
    · exact absurd h (by decide)
    have tail : mGo g l (d + 1) md_X2_make (SH lk ex).length (mTot (SH lk ex)) (36, [some (.ref 1), some (.int (nI k)), some (.int (nI a)), some (.int (if k < 2 then -1 else nI b)), some (.int s), none, none], [], SH lk ex, σ) (fun r sp σ1 => r = some (.int (oR (aMk F k a b).1)) ∧ sp = SH lk ex ∧ (fr 1 8 σ σ1 ∧ cF σ1 (aMk F k a b).2 ∧ cS σ1 (aMk F k a b).2)) := by
      refine mGo_run (n := 400) ok rfl ?_
      refine mGo_callP ok rfl (by omega) (c_find (d := d) hf hc hk ha hb hb1) ?_
      refine mGo_run (n := 400) ok rfl ?_
      cases hF : fF F k a b with
      | some j =>
        have hj := fnd_some hF
        refine mGo_if ok rfl (fun h1 => ?_) (fun h1 => ?_)
        · exact absurd h1 (nI_pos (by omega))
        · refine mGo_run (n := 400) ok rfl ?_
          have e : aMk F k a b = (some j, F) := by unfold aMk; rw [hF]
          rw [e]
          exact mGo_ret ok rfl trivial (⟨rfl, rfl, fr.refl, hc, hs⟩)
      | none =>
        refine mGo_if ok rfl (fun h1 => ?_) (fun h1 => ?_)
        · refine mGo_run (n := 400) ok rfl ?_
          refine mGo_if ok rfl (fun h2 => ?_) (fun h2 => ?_)
          · rw [hc.1] at h2
            have hn : aN F < 40 := (nI_ltI (a := aN F) (b := 40) (by omega) (by omega)).mp h2
            have e1 : (aMk F k a b).1 = some (aN F) := by unfold aMk; rw [hF]; simp only [if_pos hn]
            have cn : (nI (aN F)).toNatClampNeg = aN F := nI_clamp (by omega)
            have ca : (nI a).toNatClampNeg = a := nI_clamp (by omega)
            have hin : ∀ {x : Nat}, x < 40 → vp_in (nI x) 40 := fun hx => nI_in hx (by omega)
            have cb : k ≠ 1 → (nI b).toNatClampNeg = b := fun _ => nI_clamp (by omega)
            by_cases hk1 : k = 1
            · have hs9 : ¬ s = 0 := by rw [hs1, if_pos hk1]; decide
              refine mGo_run (n := 400) ok rfl ?_
              rw [hc.1]
              refine mGo_side ok rfl (hin (by omega)) ?_
              rw [cn]
              refine mGo_run (n := 400) ok rfl ?_
              refine mGo_side ok rfl (hin (by omega)) ?_
              rw [cn]
              refine mGo_run (n := 400) ok rfl ?_
              refine mGo_side ok rfl (hin (by omega)) ?_
              rw [cn]
              refine mGo_run (n := 400) ok rfl ?_
              refine mGo_side ok rfl (hin (by omega)) ?_
              rw [ca]
              refine mGo_run (n := 400) ok rfl ?_
              refine mGo_if ok rfl (fun h9 => absurd h9 hs9) (fun h9 => ?_)
              refine mGo_run (n := 400) ok rfl ?_
              refine mGo_callP ok rfl (by omega) (c_min (d := d) _ _) ?_
              refine mGo_run (n := 400) ok rfl ?_
              refine mGo_side ok rfl (hin (by omega)) ?_
              rw [cn]
              refine mGo_run (n := 400) ok rfl ?_
              refine mGo_side ok rfl (hin (by omega)) ?_
              rw [ca]
              refine mGo_run (n := 400) ok rfl ?_
              refine mGo_if ok rfl (fun h9 => absurd h9 hs9) (fun h9 => ?_)
              refine mGo_run (n := 400) ok rfl ?_
              refine mGo_callP ok rfl (by omega) (c_tableOf (d := d) hk _ _) ?_
              refine mGo_run (n := 400) ok rfl ?_
              refine mGo_side ok rfl (hin (by omega)) ?_
              rw [cn]
              refine mGo_run (n := 400) ok rfl ?_
              refine mGo_side ok rfl (hin (by omega)) ?_
              rw [ca]
              refine mGo_run (n := 400) ok rfl ?_
              refine mGo_if ok rfl (fun h9 => absurd h9 hs9) (fun h9 => ?_)
              refine mGo_run (n := 400) ok rfl ?_
              refine mGo_side ok rfl (hin (by omega)) ?_
              rw [cn]
              refine mGo_run (n := 400) ok rfl ?_
              refine mGo_ret ok rfl trivial ⟨by rw [e1]; rfl, rfl, ?_⟩
              refine mk_new hf hc hs hk ha hb hF hn (S := _) (T := _) (U := _) ?_ ?_ ?_ (by rw [nI_1])
              · simp only [if_pos hk1]; rfl
              · simp only [if_pos hk1]; rfl
              · simp only [if_pos hk1]; rfl
            · have hs9 : s = 0 := by rw [hs1, if_neg hk1]
              have e2 : (if k < 2 then (-1 : Int32) else nI b) = nI b := if_neg (by omega)
              have cb := cb hk1
              rw [e2]
              refine mGo_run (n := 400) ok rfl ?_
              rw [hc.1]
              refine mGo_side ok rfl (hin (by omega)) ?_
              rw [cn]
              refine mGo_run (n := 400) ok rfl ?_
              refine mGo_side ok rfl (hin (by omega)) ?_
              rw [cn]
              refine mGo_run (n := 400) ok rfl ?_
              refine mGo_side ok rfl (hin (by omega)) ?_
              rw [cn]
              refine mGo_run (n := 400) ok rfl ?_
              refine mGo_side ok rfl (hin (by omega)) ?_
              rw [ca]
              refine mGo_run (n := 400) ok rfl ?_
              refine mGo_if ok rfl (fun h9 => ?_) (fun h9 => absurd hs9 h9)
              refine mGo_run (n := 400) ok rfl ?_
              refine mGo_side ok rfl (hin (by omega)) ?_
              rw [cb]
              refine mGo_run (n := 400) ok rfl ?_
              refine mGo_callP ok rfl (by omega) (c_min (d := d) _ _) ?_
              refine mGo_run (n := 400) ok rfl ?_
              refine mGo_side ok rfl (hin (by omega)) ?_
              rw [cn]
              refine mGo_run (n := 400) ok rfl ?_
              refine mGo_side ok rfl (hin (by omega)) ?_
              rw [ca]
              refine mGo_run (n := 400) ok rfl ?_
              refine mGo_if ok rfl (fun h9 => ?_) (fun h9 => absurd hs9 h9)
              refine mGo_run (n := 400) ok rfl ?_
              refine mGo_side ok rfl (hin (by omega)) ?_
              rw [cb]
              refine mGo_run (n := 400) ok rfl ?_
              refine mGo_callP ok rfl (by omega) (c_tableOf (d := d) hk _ _) ?_
              refine mGo_run (n := 400) ok rfl ?_
              refine mGo_side ok rfl (hin (by omega)) ?_
              rw [cn]
              refine mGo_run (n := 400) ok rfl ?_
              refine mGo_side ok rfl (hin (by omega)) ?_
              rw [ca]
              refine mGo_run (n := 400) ok rfl ?_
              refine mGo_if ok rfl (fun h9 => ?_) (fun h9 => absurd hs9 h9)
              refine mGo_run (n := 400) ok rfl ?_
              refine mGo_side ok rfl (hin (by omega)) ?_
              rw [cb]
              refine mGo_run (n := 400) ok rfl ?_
              refine mGo_side ok rfl (hin (by omega)) ?_
              rw [cn]
              refine mGo_run (n := 400) ok rfl ?_
              refine mGo_ret ok rfl trivial ⟨by rw [e1]; rfl, rfl, ?_⟩
              refine mk_new hf hc hs hk ha hb hF hn (S := _) (T := _) (U := _) ?_ ?_ ?_ (by rw [nI_1, e2])
              · simp only [if_neg hk1]; rfl
              · simp only [if_neg hk1]; rfl
              · simp only [if_neg hk1]; rfl
          · rw [hc.1] at h2
            have hn : ¬ aN F < 40 := fun z => h2 ((nI_ltI (a := aN F) (b := 40) (by omega) (by omega)).mpr z)
            have e : aMk F k a b = (none, F) := by unfold aMk; rw [hF]; simp only [if_neg hn]
            refine mGo_run (n := 400) ok rfl ?_
            rw [e]
            exact mGo_ret ok rfl trivial (⟨rfl, rfl, fr.refl, hc, hs⟩)
        · exact absurd (by decide) h1
    refine mGo_run (n := 400) ok rfl ?_
    refine mGo_if ok rfl (fun h1 => ?_) (fun h1 => ?_)
    · have hk1 : k ≠ 1 := fun z => by rw [hs1, if_pos z] at h1; exact absurd h1 (by decide)
      have e2 : (if k < 2 then (-1 : Int32) else nI b) = nI b := if_neg (by omega)
      refine mGo_run (n := 400) ok rfl ?_
      rw [e2] at tail ⊢
      refine mGo_callP ok rfl (by omega) (c_has1 (d := d) hc.1 h40 hb) ?_
      refine mGo_run (n := 400) ok rfl ?_
      refine mGo_if ok rfl (fun h2 => ?_) (fun h2 => ?_)
      · exact absurd h2 (by decide)
      · exact tail
    · exact tail
  refine mGo_run (n := 400) ok rfl ?_
  refine mGo_if ok rfl (fun h => ?_) (fun h => ?_)
  · refine mGo_runS 12 (n := 400) ok rfl ?_
    exact main 1 (by rw [if_pos ((nI_eq (a := k) (b := 1) (by omega) (by omega)).mp h)])
  · refine mGo_runS 12 (n := 400) ok rfl ?_
    exact main 0 (by rw [if_neg (fun z => h (by rw [z]; rfl))])
/-- a part that isn't there: no formula -/
theorem c_make_bad1 (hc : σ.1 1 6 = nI (aN F)) (hn : aN F ≤ 40) {k : Int32} {x y : Int32} (hx : ¬ ∃ j, j < aN F ∧ x = nI j) : mNP g l (d + 1) 26 [.ref 1, .int k, .int x, .int y] lk ex σ (.int (-3)) := by
  have ok : mOkP md_X2_make := ok_at 26 (by decide) rfl
  refine mC_of (md := md_X2_make) rfl (lt_at (by decide)) rfl ?_
  have main : ∀ s : Int32, mGo g l (d + 1) md_X2_make (SH lk ex).length (mTot (SH lk ex)) (12, [some (.ref 1), some (.int k), some (.int x), some (.int y), some (.int s), none, none], [], SH lk ex, σ) (fun r sp σ1 => r = some (.int (-3)) ∧ sp = SH lk ex ∧ σ1 = σ) := by
    intro s
    refine mGo_run (n := 400) ok rfl ?_
    refine mGo_callP ok rfl (by omega) (c_has0 (d := d) hc hn hx) ?_
    refine mGo_run (n := 400) ok rfl ?_
    refine mGo_if ok rfl (fun h => ?_) (fun h => ?_)
    · refine mGo_run (n := 400) ok rfl ?_
      exact mGo_ret ok rfl trivial (⟨rfl, rfl, rfl⟩)
    · exact absurd rfl h
  refine mGo_run (n := 400) ok rfl ?_
  refine mGo_if ok rfl (fun h => ?_) (fun h => ?_)
  · refine mGo_runS 12 (n := 400) ok rfl ?_
    exact main _
  · refine mGo_runS 12 (n := 400) ok rfl ?_
    exact main _
theorem c_make_bad2 (hc : σ.1 1 6 = nI (aN F)) (hn : aN F ≤ 40) {k : Int32} {a : Nat} {y : Int32} (hk : k ≠ 1) (ha : a < aN F) (hy : ¬ ∃ j, j < aN F ∧ y = nI j) : mNP g l (d + 1) 26 [.ref 1, .int k, .int (nI a), .int y] lk ex σ (.int (-3)) := by
  have ok : mOkP md_X2_make := ok_at 26 (by decide) rfl
  refine mC_of (md := md_X2_make) rfl (lt_at (by decide)) rfl ?_
  refine mGo_run (n := 400) ok rfl ?_
  refine mGo_if ok rfl (fun h => ?_) (fun h => ?_)
  · exact absurd h hk
  · refine mGo_run (n := 400) ok rfl ?_
    refine mGo_callP ok rfl (by omega) (c_has1 (d := d) hc hn ha) ?_
    refine mGo_run (n := 400) ok rfl ?_
    refine mGo_if ok rfl (fun h1 => ?_) (fun h1 => ?_)
    · exact absurd h1 (by decide)
    · refine mGo_run (n := 400) ok rfl ?_
      refine mGo_if ok rfl (fun h2 => ?_) (fun h2 => ?_)
      · refine mGo_run (n := 400) ok rfl ?_
        refine mGo_callP ok rfl (by omega) (c_has0 (d := d) hc hn hy) ?_
        refine mGo_run (n := 400) ok rfl ?_
        refine mGo_if ok rfl (fun h3 => ?_) (fun h3 => ?_)
        · refine mGo_run (n := 400) ok rfl ?_
          exact mGo_ret ok rfl trivial (⟨rfl, rfl, rfl⟩)
        · exact absurd rfl h3
      · exact absurd rfl h2
theorem c_negationOf (hf : fOk F) (hc : cF σ F) (hs : cS σ F) {a : Nat} (ha : a < aN F) : mNR g l (d + 2) 25 [.ref 1, .int (nI a)] lk ex σ (.int (oR (aMk F 1 a 0).1)) (fun σ1 => fr 1 8 σ σ1 ∧ cF σ1 (aMk F 1 a 0).2 ∧ cS σ1 (aMk F 1 a 0).2) := by
  have ok : mOkP md_X2_negationOf := ok_at 25 (by decide) rfl
  refine mC_of (md := md_X2_negationOf) rfl (lt_at (by decide)) rfl ?_
  refine mGo_run (n := 400) ok rfl ?_
  refine mGo_callR ok rfl (by omega) (c_make (d := d) (k := 1) (b := 0) hf hc hs (by omega) ha (by have := hf.1; omega) (fun _ => rfl)) (fun σ1 hσ1 => ?_)
  refine mGo_run (n := 400) ok rfl ?_
  exact mGo_ret ok rfl trivial (⟨rfl, rfl, hσ1⟩)
theorem c_negationOf_bad (hc : σ.1 1 6 = nI (aN F)) (hn : aN F ≤ 40) {x : Int32} (hx : ¬ ∃ j, j < aN F ∧ x = nI j) : mNP g l (d + 2) 25 [.ref 1, .int x] lk ex σ (.int (-3)) := by
  have ok : mOkP md_X2_negationOf := ok_at 25 (by decide) rfl
  refine mC_of (md := md_X2_negationOf) rfl (lt_at (by decide)) rfl ?_
  refine mGo_run (n := 400) ok rfl ?_
  refine mGo_callP ok rfl (by omega) (c_make_bad1 (d := d) hc hn hx) ?_
  refine mGo_run (n := 400) ok rfl ?_
  exact mGo_ret ok rfl trivial (⟨rfl, rfl, rfl⟩)
end T
end
section
/-! the reference: formulas -/
def mF (σ : mHp) (F : aF) : Prop := σ.1 48 0 = nI (aN F) ∧ ∀ j, j < aN F → σ.1 49 j = nI (aK F j) ∧ σ.1 50 j = nI (aA F j) ∧ σ.1 51 j = nI (aB F j)
/-- of the reference's own numbers only those at the places ks have changed -/
def fm (ks : List Nat) (σ σ1 : mHp) : Prop := ∀ k, k ∉ ks → σ1.1 48 k = σ.1 48 k ∧ σ1.2.1 48 k = σ.2.1 48 k
theorem fm.refl {ks : List Nat} {σ : mHp} : fm ks σ σ := fun _ _ => ⟨rfl, rfl⟩
theorem fm.trans {ks : List Nat} {σ σ1 σ2 : mHp} (h1 : fm ks σ σ1) (h2 : fm ks σ1 σ2) : fm ks σ σ2 := fun k hk => ⟨(h2 k hk).1.trans (h1 k hk).1, (h2 k hk).2.trans (h1 k hk).2⟩
theorem fm.wide {ks ks2 : List Nat} {σ σ1 : mHp} (h : fm ks σ σ1) (h1 : ∀ k ∈ ks, k ∈ ks2) : fm ks2 σ σ1 := fun k hk => h k (fun q => hk (h1 k q))
theorem fm.WI {ks : List Nat} {i k : Nat} {v : Int32} {σ σ1 : mHp} (h : fm ks σ σ1) (h1 : i = 48 → k ∈ ks) : fm ks σ (mWI σ1 i k v) := fun j hj => by
  obtain ⟨a, b⟩ := h j hj
  refine ⟨?_, b⟩
  rw [WI_at, if_neg (fun z => hj (by rw [z.2]; exact h1 z.1.symm))]
  exact a
theorem fm.WL {ks : List Nat} {i k : Nat} {v : Int64} {σ σ1 : mHp} (h : fm ks σ σ1) (h1 : i = 48 → k ∈ ks) : fm ks σ (mWL σ1 i k v) := fun j hj => by
  obtain ⟨a, b⟩ := h j hj
  refine ⟨a, ?_⟩
  rw [WL_at, if_neg (fun z => hj (by rw [z.2]; exact h1 z.1.symm))]
  exact b
def bI (b : Bool) : Int32 := if b then 1 else 0
/-- the reference makes a formula: its number, the formulas, whether there was no room -/
def aMm (F : aF) (fl : Bool) (k a b : Nat) : Nat × aF × Bool := match fF F k a b with
  | some j => (j, F, fl)
  | none => if fl = true ∨ aN F = 40 then (0, F, true) else (aN F, (aN F + 1, up (aK F) (aN F) k, up (aA F) (aN F) a, up (aB F) (aN F) b), false)
theorem aMm_of {F : aF} (hf : fOk F) (k a b : Nat) : aMm F false k a b = (match (aMk F k a b).1 with
  | some j => (j, (aMk F k a b).2, false)
  | none => (0, F, true)) := by
  unfold aMm aMk
  cases fF F k a b with
  | some j => rfl
  | none =>
    have := hf.2.1
    by_cases h : aN F < 40
    · simp only [if_pos h]
      rw [if_neg (by rintro (z | z); cases z; omega)]
    · simp only [if_neg h]
      rw [if_pos (Or.inr (by omega))]
theorem aMm_full {F : aF} (k a b : Nat) : ∃ j, aMm F true k a b = (j, F, true) ∧ (4 ≤ aN F → j < aN F) := by
  unfold aMm
  cases h : fF F k a b with
  | some j => exact ⟨j, rfl, fun _ => by have := fnd_some h; omega⟩
  | none => exact ⟨0, by simp, fun _ => by omega⟩
theorem aMk_none {F : aF} {k a b : Nat} (h : (aMk F k a b).1 = none) : (aMk F k a b).2 = F := by
  unfold aMk at h ⊢
  cases hF : fF F k a b with
  | some j => rfl
  | none =>
    rw [hF] at h
    by_cases h1 : aN F < 40
    · simp [if_pos h1] at h
    · simp only [if_neg h1]
theorem mk_mF {σ : mHp} {F : aF} (hm : mF σ F) (k a b : Nat) : mF (mWI (mWI (mWI (mWI σ 49 (aN F) (nI k)) 50 (aN F) (nI a)) 51 (aN F) (nI b)) 48 0 (nI (aN F + 1))) (aN F + 1, up (aK F) (aN F) k, up (aA F) (aN F) a, up (aB F) (aN F) b) := by
  refine ⟨by simp only [WI_at, and_self, if_true], fun j hj => ?_⟩
  have hj : j < aN F + 1 := hj
  by_cases he : j = aN F
  · subst he
    refine ⟨?_, ?_, ?_⟩ <;> simp [aN_mk, aK_mk, aA_mk, aB_mk, WI_at, up]
  · obtain ⟨c1, c2, c3⟩ := hm.2 j (by omega)
    refine ⟨?_, ?_, ?_⟩ <;> simp [aN_mk, aK_mk, aA_mk, aB_mk, WI_at, up, he, c1, c2, c3]
section T
variable {g : mG} {l : Launch} {d : Nat} {lk : Nat} {ex : mSh} {σ : mHp} {F : aF}
theorem m_isIn (v lo hi : Int32) : mNP g l d 118 [.int v, .int lo, .int hi] lk ex σ (.int (if lo ≤ v ∧ v ≤ hi then 1 else 0)) := by
  have ok : mOkP md_X9_isIn := ok_at 118 (by decide) rfl
  refine mC_of (md := md_X9_isIn) rfl (lt_at (by decide)) rfl ?_
  refine mGo_run (n := 400) ok rfl ?_
  refine mGo_if ok rfl (fun h => ?_) (fun h => ?_)
  · refine mGo_run (n := 400) ok rfl ?_
    rw [if_neg (fun q => absurd h (Int32.not_lt.mpr q.1))]
    exact mGo_ret ok rfl (Or.inl rfl) (⟨rfl, rfl, rfl⟩)
  · refine mGo_run (n := 400) ok rfl ?_
    refine mGo_if ok rfl (fun h1 => ?_) (fun h1 => ?_)
    · refine mGo_run (n := 400) ok rfl ?_
      rw [if_neg (fun q => absurd h1 (Int32.not_lt.mpr q.2))]
      exact mGo_ret ok rfl (Or.inl rfl) (⟨rfl, rfl, rfl⟩)
    · refine mGo_run (n := 400) ok rfl ?_
      rw [if_pos ⟨Int32.not_lt.mp h, Int32.not_lt.mp h1⟩]
      exact mGo_ret ok rfl (Or.inr rfl) (⟨rfl, rfl, rfl⟩)
theorem i_le1 {f : Int32} {n : Nat} (h0 : 1 ≤ n) (hn : n < 2 ^ 31) : f ≤ nI n - 1 ↔ f < nI n := by
  have e : nI n - 1 = nI (n - 1) := by
    have := nI_pred (n - 1)
    rw [show n - 1 + 1 = n by omega] at this
    exact this
  rw [e, Int32.le_iff_toInt_le, Int32.lt_iff_toInt_lt, nI_toInt (by omega), nI_toInt hn]
  omega
/-- is it the number of a formula -/
theorem m_isFormula (hm : σ.1 48 0 = nI (aN F)) (h4 : 4 ≤ aN F) (hn : aN F ≤ 40) (f : Int32) : mNP g l (d + 1) 119 [.ref 48, .int f] lk ex σ (.int (if 0 ≤ f ∧ f < nI (aN F) then 1 else 0)) := by
  have ok : mOkP md_X9_isFormula := ok_at 119 (by decide) rfl
  refine mC_of (md := md_X9_isFormula) rfl (lt_at (by decide)) rfl ?_
  refine mGo_run (n := 400) ok rfl ?_
  refine mGo_callP ok rfl (by omega) (m_isIn (d := d) f 0 (σ.1 48 0 - 1)) ?_
  refine mGo_run (n := 400) ok rfl ?_
  rw [hm]
  have e : (if 0 ≤ f ∧ f ≤ nI (aN F) - 1 then (1 : Int32) else 0) = if 0 ≤ f ∧ f < nI (aN F) then 1 else 0 := by
    simp only [i_le1 (n := aN F) (f := f) (by omega) (by omega)]
  rw [e]
  exact mGo_ret ok rfl (b01 _) (⟨rfl, rfl, rfl⟩)
theorem m_isFormula1 (hm : σ.1 48 0 = nI (aN F)) (h4 : 4 ≤ aN F) (hn : aN F ≤ 40) {j : Nat} (hj : j < aN F) : mNP g l (d + 1) 119 [.ref 48, .int (nI j)] lk ex σ (.int 1) := by
  have h := m_isFormula (g := g) (l := l) (d := d) (lk := lk) (ex := ex) hm h4 hn (nI j)
  rw [if_pos ((i_in (by omega)).mpr ⟨j, hj, rfl⟩)] at h
  exact h
theorem m_isFormula0 (hm : σ.1 48 0 = nI (aN F)) (h4 : 4 ≤ aN F) (hn : aN F ≤ 40) {f : Int32} (hf : ¬ ∃ j, j < aN F ∧ f = nI j) : mNP g l (d + 1) 119 [.ref 48, .int f] lk ex σ (.int 0) := by
  have h := m_isFormula (g := g) (l := l) (d := d) (lk := lk) (ex := ex) hm h4 hn f
  rw [if_neg (fun q => hf ((i_in (by omega)).mp q))] at h
  exact h
theorem m_make (hf : fOk F) (hm : mF σ F) {fl : Bool} (hfl : σ.1 48 4 = bI fl) {k a b : Nat} (hk : 1 ≤ k ∧ k ≤ 4) (ha : a < aN F) (hb : b < aN F) : mNR g l d 120 [.ref 48, .int (nI k), .int (nI a), .int (nI b)] lk ex σ (.int (nI (aMm F fl k a b).1)) (fun σ1 => fr 48 52 σ σ1 ∧ fm [0, 4] σ σ1 ∧ mF σ1 (aMm F fl k a b).2.1 ∧ σ1.1 48 4 = bI (aMm F fl k a b).2.2) := by
  obtain ⟨h4, h40, hw⟩ := id hf
  have ok : mOkP md_X9_make := ok_at 120 (by decide) rfl
  refine mC_of (md := md_X9_make) rfl (lt_at (by decide)) rfl ?_
  refine mGo_runS 3 (n := 400) ok rfl ?_
  have loop : ∀ m i : Nat, i + m = aN F → 4 ≤ i → fnd (fun j => aK F j = k ∧ aA F j = a ∧ aB F j = b) i m = fF F k a b → mGo g l d md_X9_make (SH lk ex).length (mTot (SH lk ex)) (3, [some (.ref 48), some (.int (nI k)), some (.int (nI a)), some (.int (nI b)), some (.int (nI i))], [], SH lk ex, σ) (fun r sp σ1 => r = some (.int (nI (aMm F fl k a b).1)) ∧ sp = SH lk ex ∧ (fr 48 52 σ σ1 ∧ fm [0, 4] σ σ1 ∧ mF σ1 (aMm F fl k a b).2.1 ∧ σ1.1 48 4 = bI (aMm F fl k a b).2.2)) := by
    intro m
    induction m with
    | zero =>
      intro i hi h4i hF
      have hF : fF F k a b = none := hF.symm
      have full : fl = true ∨ aN F = 40 → mGo g l d md_X9_make (SH lk ex).length (mTot (SH lk ex)) (70, [some (.ref 48), some (.int (nI k)), some (.int (nI a)), some (.int (nI b)), some (.int (nI i))], [], SH lk ex, σ) (fun r sp σ1 => r = some (.int (nI (aMm F fl k a b).1)) ∧ sp = SH lk ex ∧ (fr 48 52 σ σ1 ∧ fm [0, 4] σ σ1 ∧ mF σ1 (aMm F fl k a b).2.1 ∧ σ1.1 48 4 = bI (aMm F fl k a b).2.2)) := by
        intro hfull
        have e : aMm F fl k a b = (0, F, true) := by unfold aMm; rw [hF]; simp only [if_pos hfull]
        rw [e]
        refine mGo_run (n := 400) ok rfl ?_
        refine mGo_side ok rfl (Or.inr rfl) ?_
        refine mGo_run (n := 400) ok rfl ?_
        exact mGo_ret ok rfl trivial (⟨rfl, rfl, fr.refl.WI (by decide) (by decide), fm.refl.WI (fun _ => by decide), ⟨by simp [WI_at, hm.1], fun j hj => by simpa [WI_at] using hm.2 j hj⟩, by simp [WI_at, bI]⟩)
      refine mGo_run (n := 400) ok rfl ?_
      refine mGo_if ok rfl (fun h => ?_) (fun h => ?_)
      · refine mGo_run (n := 400) ok rfl ?_
        refine mGo_if ok rfl (fun h1 => ?_) (fun h1 => ?_)
        · have hfl0 : fl = false := by
            cases fl with
            | false => rfl
            | true => rw [hfl] at h1; exact absurd h1 (by decide)
          refine mGo_run (n := 400) ok rfl ?_
          refine mGo_if ok rfl (fun h2 => ?_) (fun h2 => ?_)
          · rw [hm.1] at h2
            exact full (Or.inr ((nI_eq (a := aN F) (b := 40) (by omega) (by omega)).mp h2))
          · rw [hm.1] at h2
            have hn : aN F ≠ 40 := fun z => h2 (by rw [z]; rfl)
            have e : aMm F fl k a b = (aN F, (aN F + 1, up (aK F) (aN F) k, up (aA F) (aN F) a, up (aB F) (aN F) b), false) := by
              unfold aMm; rw [hF]; simp only
              rw [if_neg (by rintro (z | z); rw [hfl0] at z; cases z; exact hn z)]
            have cn : (nI (aN F)).toNatClampNeg = aN F := nI_clamp (by omega)
            have hin : vp_in (nI (aN F)) 40 := nI_in (by omega) (by omega)
            rw [e]
            refine mGo_run (n := 400) ok rfl ?_
            rw [hm.1]
            refine mGo_side ok rfl (hin) ?_
            rw [cn]
            refine mGo_run (n := 400) ok rfl ?_
            rw [show (mWI σ 49 (aN F) (nI k)).1 48 0 = nI (aN F) from hm.1]
            refine mGo_side ok rfl (hin) ?_
            rw [cn]
            refine mGo_run (n := 400) ok rfl ?_
            rw [show (mWI (mWI σ 49 (aN F) (nI k)) 50 (aN F) (nI a)).1 48 0 = nI (aN F) from hm.1]
            refine mGo_side ok rfl (hin) ?_
            rw [cn]
            refine mGo_run (n := 400) ok rfl ?_
            rw [show (mWI (mWI (mWI σ 49 (aN F) (nI k)) 50 (aN F) (nI a)) 51 (aN F) (nI b)).1 48 0 = nI (aN F) from hm.1, nI_1]
            exact mGo_ret ok rfl trivial (⟨by simp only [WI_at, and_self, if_true]; rw [nI_pred], rfl, ((((fr.refl.WI (by decide) (by decide)).WI (by decide) (by decide)).WI (by decide) (by decide)).WI (by decide) (by decide)), ((((fm.refl.WI (fun z => absurd z (by decide))).WI (fun z => absurd z (by decide))).WI (fun z => absurd z (by decide))).WI (fun _ => by decide)), mk_mF hm k a b, by simp [WI_at, hfl, hfl0]⟩)
        · have hfl1 : fl = true := by
            cases fl with
            | true => rfl
            | false => rw [hfl] at h1; exact absurd (by decide) h1
          exact full (Or.inl hfl1)
      · rw [hm.1] at h
        exact absurd (nI_le (show aN F ≤ i by omega) (by omega)) h
    | succ m ih =>
      intro i hi h4i hF
      have hin : i < aN F := by omega
      obtain ⟨w1, w2, w3, w4, w5, w6⟩ := hw i hin
      obtain ⟨c1, c2, c3⟩ := hm.2 i hin
      have hAb : aA F i < 40 := by
        by_cases z : aK F i = 0
        · rw [w6 z]; omega
        · have := w3 z; omega
      have hBb : aB F i < 40 := by
        by_cases z : aK F i < 2
        · rw [w5 z]; omega
        · have := w4 (by omega); omega
      have next : ¬ (aK F i = k ∧ aA F i = a ∧ aB F i = b) → mGo g l d md_X9_make (SH lk ex).length (mTot (SH lk ex)) (3, [some (.ref 48), some (.int (nI k)), some (.int (nI a)), some (.int (nI b)), some (.int (nI (i + 1)))], [], SH lk ex, σ) (fun r sp σ1 => r = some (.int (nI (aMm F fl k a b).1)) ∧ sp = SH lk ex ∧ (fr 48 52 σ σ1 ∧ fm [0, 4] σ σ1 ∧ mF σ1 (aMm F fl k a b).2.1 ∧ σ1.1 48 4 = bI (aMm F fl k a b).2.2)) := by
        intro hne
        simp only [fnd, if_neg hne] at hF
        exact ih (i + 1) (by omega) (by omega) hF
      refine mGo_run (n := 400) ok rfl ?_
      refine mGo_if ok rfl (fun h => ?_) (fun h => ?_)
      · rw [hm.1] at h
        exact absurd h (nI_ge hin (by omega))
      · refine mGo_run (n := 400) ok rfl ?_
        refine mGo_side ok rfl (nI_in (by omega) (by omega)) ?_
        refine mGo_run (n := 400) ok rfl ?_
        refine mGo_if ok rfl (fun h1 => ?_) (fun h1 => ?_)
        · rw [nI_clamp (by omega), c1, nI_eq (by omega) (by omega)] at h1
          refine mGo_run (n := 400) ok rfl ?_
          refine mGo_side ok rfl (nI_in (by omega) (by omega)) ?_
          refine mGo_run (n := 400) ok rfl ?_
          refine mGo_if ok rfl (fun h2 => ?_) (fun h2 => ?_)
          · rw [nI_clamp (by omega), c2, nI_eq (by omega) (by omega)] at h2
            refine mGo_run (n := 400) ok rfl ?_
            refine mGo_side ok rfl (nI_in (by omega) (by omega)) ?_
            refine mGo_run (n := 400) ok rfl ?_
            refine mGo_if ok rfl (fun h3 => ?_) (fun h3 => ?_)
            · rw [nI_clamp (by omega), c3, nI_eq (by omega) (by omega)] at h3
              simp only [fnd, if_pos (show aK F i = k ∧ aA F i = a ∧ aB F i = b from ⟨h1, h2, h3⟩)] at hF
              have e : aMm F fl k a b = (i, F, fl) := by unfold aMm; rw [← hF]
              rw [e]
              refine mGo_run (n := 400) ok rfl ?_
              exact mGo_ret ok rfl trivial (⟨rfl, rfl, fr.refl, fm.refl, hm, hfl⟩)
            · refine mGo_runS 3 (n := 400) ok rfl ?_
              rw [nI_1]
              refine next (fun z => h3 ?_)
              rw [nI_clamp (by omega), c3, z.2.2]
          · refine mGo_runS 3 (n := 400) ok rfl ?_
            rw [nI_1]
            refine next (fun z => h2 ?_)
            rw [nI_clamp (by omega), c2, z.2.1]
        · refine mGo_runS 3 (n := 400) ok rfl ?_
          rw [nI_1]
          refine next (fun z => h1 ?_)
          rw [nI_clamp (by omega), c1, z.1]
  exact loop (aN F - 4) 4 (by omega) (by omega) rfl
theorem m_settled {fl : Bool} (hfl : σ.1 48 4 = bI fl) (x y : Int32) : mNR g l d 121 [.ref 48, .int x, .int y] lk ex σ (.int (if fl then -3 else y)) (fun σ1 => σ1 = if fl then mWI σ 48 0 x else σ) := by
  have ok : mOkP md_X9_settled := ok_at 121 (by decide) rfl
  refine mC_of (md := md_X9_settled) rfl (lt_at (by decide)) rfl ?_
  refine mGo_run (n := 400) ok rfl ?_
  refine mGo_if ok rfl (fun h => ?_) (fun h => ?_)
  · have e : fl = false := by
      cases fl with
      | false => rfl
      | true => rw [hfl] at h; exact absurd h (by decide)
    subst e
    refine mGo_run (n := 400) ok rfl ?_
    exact mGo_ret ok rfl trivial (⟨rfl, rfl, rfl⟩)
  · have e : fl = true := by
      cases fl with
      | true => rfl
      | false => rw [hfl] at h; exact absurd (by decide) h
    subst e
    refine mGo_run (n := 400) ok rfl ?_
    exact mGo_ret ok rfl trivial (⟨rfl, rfl, rfl⟩)
theorem m_not (hf : fOk F) (hm : mF σ F) {fl : Bool} (hfl : σ.1 48 4 = bI fl) {a : Nat} (ha : a < aN F) : mNR g l (d + 1) 145 [.ref 48, .int (nI a)] lk ex σ (.int (nI (aMm F fl 1 a 0).1)) (fun σ1 => fr 48 52 σ σ1 ∧ fm [0, 4] σ σ1 ∧ mF σ1 (aMm F fl 1 a 0).2.1 ∧ σ1.1 48 4 = bI (aMm F fl 1 a 0).2.2) := by
  have ok : mOkP md_X9_not := ok_at 145 (by decide) rfl
  refine mC_of (md := md_X9_not) rfl (lt_at (by decide)) rfl ?_
  refine mGo_run (n := 400) ok rfl ?_
  refine mGo_callR ok rfl (by omega) (m_make (d := d) (k := 1) (b := 0) hf hm hfl (by omega) ha (by have := hf.1; omega)) (fun σ1 hσ1 => ?_)
  refine mGo_run (n := 400) ok rfl ?_
  exact mGo_ret ok rfl trivial (⟨rfl, rfl, hσ1⟩)
end T
end
section
/-! formulas asked for: both sides -/
/-- the number of a formula, if it is one -/
def vF (F : aF) (f : Int32) : Option Nat := if 0 ≤ f ∧ f < nI (aN F) then some f.toNatClampNeg else none
theorem vF_some {F : aF} (hn : aN F ≤ 40) {f : Int32} {j : Nat} (h : vF F f = some j) : j < aN F ∧ f = nI j := by
  unfold vF at h
  by_cases hc : 0 ≤ f ∧ f < nI (aN F)
  · rw [if_pos hc] at h
    cases h
    obtain ⟨i, hi, rfl⟩ := (i_in (by omega)).mp hc
    rw [nI_clamp (by omega)]
    exact ⟨hi, rfl⟩
  · rw [if_neg hc] at h; cases h
theorem vF_none {F : aF} (hn : aN F ≤ 40) {f : Int32} (h : vF F f = none) : ¬ ∃ j, j < aN F ∧ f = nI j := by
  intro hx
  unfold vF at h
  rw [if_pos ((i_in (by omega)).mpr hx)] at h
  cases h
/-- a function on numbers by its step -/
def rcA {α : Type} (step : (Nat → α) → Nat → α) (z : α) : Nat → Nat → α
  | 0, _ => z
  | k + 1, j => step (rcA step z k) j
theorem rc_uniq {α : Type} {step : (Nat → α) → Nat → α} {z : α} {n : Nat} (hloc : ∀ (f g : Nat → α) (j : Nat), j < n → (∀ i, i < j → f i = g i) → step f j = step g j) {f : Nat → α} (hf : ∀ j, j < n → f j = step f j) : ∀ (j : Nat), j < n → ∀ k, j < k → rcA step z k j = f j := by
  intro j
  induction j using Nat.strongRecOn with
  | _ j ih =>
    intro hj k hk
    cases k with
    | zero => omega
    | succ k =>
      rw [hf j hj]
      exact hloc _ _ j hj (fun i hi => ih i hi (by omega) k (by omega))
/-- the same, as far as the steps have come -/
theorem rc_next {α : Type} {step : (Nat → α) → Nat → α} {z : α} {n : Nat} (hloc : ∀ (f g : Nat → α) (j : Nat), j < n → (∀ i, i < j → f i = g i) → step f j = step g j) {f : Nat → α} {j : Nat} (hj : j < n) (h : ∀ i, i < j → f i = rcA step z (i + 1) i) : step f j = rcA step z (j + 1) j := by
  show step f j = step (rcA step z j) j
  refine hloc _ _ j hj (fun i hi => ?_)
  rw [h i hi]
  have key : ∀ (i : Nat), i < n → ∀ k k2, i < k → i < k2 → rcA step z k i = rcA step z k2 i := by
    intro i
    induction i using Nat.strongRecOn with
    | _ i ih =>
      intro hi k k2 h1 h2
      cases k with
      | zero => omega
      | succ k => cases k2 with
        | zero => omega
        | succ k2 => exact hloc _ _ i hi (fun x hx => ih x hx (by omega) k k2 (by omega) (by omega))
  exact key i (by omega) _ _ (by omega) hi
def fSz (F : aF) (j : Nat) : Int32 := rcA (szR F) 0 (j + 1) j
def fTb (F : aF) (j : Nat) : Int32 := rcA (tbR F) 0 (j + 1) j
def fSb (F : aF) (j : Nat) : Int64 := rcA (sbR F) 0 (j + 1) j
theorem szL {F : aF} (hf : fOk F) : ∀ (f g : Nat → Int32) (j : Nat), j < aN F → (∀ i, i < j → f i = g i) → szR F f j = szR F g j := by
  intro f g j hj h
  obtain ⟨w1, w2, w3, w4, w5, w6⟩ := hf.2.2 j hj
  unfold szR
  by_cases k0 : aK F j = 0
  · simp [k0]
  · by_cases k1 : aK F j = 1
    · simp [k1, h _ (w3 k0)]
    · simp [k0, k1, h _ (w3 k0), h _ (w4 (by omega))]
theorem tbL {F : aF} (hf : fOk F) : ∀ (f g : Nat → Int32) (j : Nat), j < aN F → (∀ i, i < j → f i = g i) → tbR F f j = tbR F g j := by
  intro f g j hj h
  obtain ⟨w1, w2, w3, w4, w5, w6⟩ := hf.2.2 j hj
  unfold tbR
  by_cases k0 : aK F j = 0
  · simp [k0]
  · by_cases k1 : aK F j = 1
    · simp [k1, h _ (w3 k0)]
    · simp [k0, k1, h _ (w3 k0), h _ (w4 (by omega))]
theorem sbL {F : aF} (hf : fOk F) : ∀ (f g : Nat → Int64) (j : Nat), j < aN F → (∀ i, i < j → f i = g i) → sbR F f j = sbR F g j := by
  intro f g j hj h
  obtain ⟨w1, w2, w3, w4, w5, w6⟩ := hf.2.2 j hj
  unfold sbR
  by_cases k0 : aK F j = 0
  · simp [k0]
  · by_cases k1 : aK F j = 1
    · simp [k1, h _ (w3 k0)]
    · simp [k0, k1, h _ (w3 k0), h _ (w4 (by omega))]
theorem cS_at {σ : mHp} {F : aF} (hf : fOk F) (hs : cS σ F) {j : Nat} (hj : j < aN F) : σ.1 5 j = fSz F j ∧ σ.1 6 j = fTb F j ∧ σ.2.1 7 j = fSb F j :=
  ⟨(rc_uniq (szL hf) (fun i hi => (hs i hi).1) j hj (j + 1) (by omega)).symm, (rc_uniq (tbL hf) (fun i hi => (hs i hi).2.1) j hj (j + 1) (by omega)).symm, (rc_uniq (sbL hf) (fun i hi => (hs i hi).2.2) j hj (j + 1) (by omega)).symm⟩
/-- what the questions about formulas answer -/
def qKind (F : aF) (f : Int32) : Int32 := match vF F f with
  | none => -2
  | some j => nI (aK F j)
def qPart (F : aF) (f w : Int32) : Int32 := match vF F f with
  | none => -2
  | some j => if w = 0 then (if aK F j = 0 then -5 else nI (aA F j)) else if w = 1 then (if aK F j < 2 then -5 else nI (aB F j)) else -1
def qSize (F : aF) (f : Int32) : Int32 := match vF F f with
  | none => -2
  | some j => fSz F j
def qSub (F : aF) (f : Int32) : Int64 := match vF F f with
  | none => -9223372036854775808
  | some j => fSb F j
def qTab (F : aF) (f : Int32) : Int32 := match vF F f with
  | none => -2
  | some j => fTb F j
def qEqv (F : aF) (f h : Int32) : Int32 := match vF F f, vF F h with
  | some i, some j => if fTb F i = fTb F j then 1 else 0
  | _, _ => -2
def qNeg (F : aF) (f : Int32) : Int32 × aF := match vF F f with
  | none => (-2, F)
  | some j => (oR (aMk F 1 j 0).1, (aMk F 1 j 0).2)
def qCom (F : aF) (k f h : Int32) : Int32 × aF := if 2 ≤ k ∧ k ≤ 4 then (match vF F f, vF F h with
  | some i, some j => (oR (aMk F k.toNatClampNeg i j).1, (aMk F k.toNatClampNeg i j).2)
  | _, _ => (-2, F)) else (-1, F)
section T
variable {g : mG} {l : Launch} {d : Nat} {lk : Nat} {ex : mSh} {σ : mHp} {F : aF}
theorem x_kind (hf : fOk F) (hc : cF σ F) (f : Int32) : mNP g l (d + 1) 83 [.ref 0, .int f] lk ex σ (.int (qKind F f)) := by
  have ok : mOkP md_X8_kind := ok_at 83 (by decide) rfl
  refine mC_of (md := md_X8_kind) rfl (lt_at (by decide)) rfl ?_
  unfold qKind
  refine mGo_run (n := 400) ok rfl ?_
  cases hv : vF F f with
  | none =>
    refine mGo_callP ok rfl (by omega) (c_has0 (d := d) hc.1 hf.2.1 (vF_none hf.2.1 hv)) ?_
    refine mGo_run (n := 400) ok rfl ?_
    refine mGo_if ok rfl (fun h => ?_) (fun h => ?_)
    · refine mGo_run (n := 400) ok rfl ?_
      exact mGo_ret ok rfl trivial (⟨rfl, rfl, rfl⟩)
    · exact absurd rfl h
  | some j =>
    obtain ⟨hj, rfl⟩ := vF_some hf.2.1 hv
    refine mGo_callP ok rfl (by omega) (c_has1 (d := d) hc.1 hf.2.1 hj) ?_
    refine mGo_run (n := 400) ok rfl ?_
    refine mGo_if ok rfl (fun h => ?_) (fun h => ?_)
    · exact absurd h (by decide)
    · refine mGo_run (n := 400) ok rfl ?_
      refine mGo_callP ok rfl (by omega) (c_kindOf (d := d) hf.2.1 hc hj) ?_
      refine mGo_run (n := 400) ok rfl ?_
      exact mGo_ret ok rfl trivial (⟨rfl, rfl, rfl⟩)
theorem x_part (hf : fOk F) (hc : cF σ F) (f w : Int32) : mNP g l (d + 1) 84 [.ref 0, .int f, .int w] lk ex σ (.int (qPart F f w)) := by
  have ok : mOkP md_X8_part := ok_at 84 (by decide) rfl
  refine mC_of (md := md_X8_part) rfl (lt_at (by decide)) rfl ?_
  unfold qPart
  refine mGo_run (n := 400) ok rfl ?_
  cases hv : vF F f with
  | none =>
    refine mGo_callP ok rfl (by omega) (c_has0 (d := d) hc.1 hf.2.1 (vF_none hf.2.1 hv)) ?_
    refine mGo_run (n := 400) ok rfl ?_
    refine mGo_if ok rfl (fun h => ?_) (fun h => ?_)
    · refine mGo_run (n := 400) ok rfl ?_
      exact mGo_ret ok rfl trivial (⟨rfl, rfl, rfl⟩)
    · exact absurd rfl h
  | some j =>
    obtain ⟨hj, rfl⟩ := vF_some hf.2.1 hv
    obtain ⟨w1, w2, w3, w4, w5, w6⟩ := hf.2.2 j hj
    have hn := hf.2.1
    have tail : ∀ x y : Int32, (if x = -1 then (-5 : Int32) else x) = y → mGo g l (d + 1) md_X8_part (SH lk ex).length (mTot (SH lk ex)) (48, [some (.ref 0), some (.int (nI j)), some (.int w), none], [.int x], SH lk ex, σ) (fun r sp σ1 => r = some (.int y) ∧ sp = SH lk ex ∧ σ1 = σ) := by
      intro x y hy
      refine mGo_run (n := 400) ok rfl ?_
      refine mGo_if ok rfl (fun h => ?_) (fun h => ?_)
      · refine mGo_run (n := 400) ok rfl ?_
        rw [if_pos h] at hy
        exact mGo_ret ok rfl trivial (⟨by rw [← hy], rfl, rfl⟩)
      · refine mGo_run (n := 400) ok rfl ?_
        rw [if_neg h] at hy
        exact mGo_ret ok rfl trivial (⟨by rw [← hy], rfl, rfl⟩)
    have neg : ∀ {x : Nat}, x < 40 → ¬ nI x = -1 := fun {x} hx z => by
      have := congrArg Int32.toInt z
      rw [nI_toInt (by omega)] at this
      have : (x : Int) = -1 := this
      omega
    refine mGo_callP ok rfl (by omega) (c_has1 (d := d) hc.1 hf.2.1 hj) ?_
    refine mGo_run (n := 400) ok rfl ?_
    refine mGo_if ok rfl (fun h => ?_) (fun h => ?_)
    · exact absurd h (by decide)
    · refine mGo_run (n := 400) ok rfl ?_
      refine mGo_if ok rfl (fun h0 => ?_) (fun h0 => ?_)
      · subst h0
        refine mGo_run (n := 400) ok rfl ?_
        refine mGo_if ok rfl (fun h2 => ?_) (fun h2 => ?_)
        · refine mGo_run (n := 400) ok rfl ?_
          refine mGo_callP ok rfl (by omega) (c_firstOf (d := d) hf.2.1 hc hj) ?_
          refine mGo_runS 48 (n := 400) ok rfl ?_
          refine tail _ _ ?_
          simp only [if_true]
          by_cases k0 : aK F j = 0
          · simp [k0]
          · simp only [if_neg k0]
            rw [if_neg (neg (by have := w3 k0; omega))]
        · exact absurd rfl h2
      · refine mGo_run (n := 400) ok rfl ?_
        refine mGo_if ok rfl (fun h1 => ?_) (fun h1 => ?_)
        · subst h1
          refine mGo_run (n := 400) ok rfl ?_
          refine mGo_if ok rfl (fun h2 => ?_) (fun h2 => ?_)
          · exact absurd h2 (by decide)
          · refine mGo_run (n := 400) ok rfl ?_
            refine mGo_callP ok rfl (by omega) (c_secondOf (d := d) hf.2.1 hc hj) ?_
            refine tail _ _ ?_
            simp only [if_neg (show ¬ (1 : Int32) = 0 by decide), if_true]
            by_cases k0 : aK F j < 2
            · simp [k0]
            · simp only [if_neg k0]
              rw [if_neg (neg (by have := w4 (by omega); omega))]
        · refine mGo_run (n := 400) ok rfl ?_
          exact mGo_ret ok rfl trivial (⟨by simp only [if_neg h0, if_neg h1], rfl, rfl⟩)
theorem x_size (hf : fOk F) (hc : cF σ F) (hs : cS σ F) (f : Int32) : mNP g l (d + 1) 85 [.ref 0, .int f] lk ex σ (.int (qSize F f)) := by
  have ok : mOkP md_X8_size := ok_at 85 (by decide) rfl
  refine mC_of (md := md_X8_size) rfl (lt_at (by decide)) rfl ?_
  unfold qSize
  refine mGo_run (n := 400) ok rfl ?_
  cases hv : vF F f with
  | none =>
    refine mGo_callP ok rfl (by omega) (c_has0 (d := d) hc.1 hf.2.1 (vF_none hf.2.1 hv)) ?_
    refine mGo_run (n := 400) ok rfl ?_
    refine mGo_if ok rfl (fun h => ?_) (fun h => ?_)
    · refine mGo_run (n := 400) ok rfl ?_
      exact mGo_ret ok rfl trivial (⟨rfl, rfl, rfl⟩)
    · exact absurd rfl h
  | some j =>
    obtain ⟨hj, rfl⟩ := vF_some hf.2.1 hv
    have hn := hf.2.1
    refine mGo_callP ok rfl (by omega) (c_has1 (d := d) hc.1 hf.2.1 hj) ?_
    refine mGo_run (n := 400) ok rfl ?_
    refine mGo_if ok rfl (fun h => ?_) (fun h => ?_)
    · exact absurd h (by decide)
    · refine mGo_run (n := 400) ok rfl ?_
      refine mGo_side ok rfl (nI_in (by omega) (by omega)) ?_
      refine mGo_run (n := 400) ok rfl ?_
      exact mGo_ret ok rfl trivial (⟨by rw [nI_clamp (by omega), (cS_at hf hs hj).1], rfl, rfl⟩)
theorem x_subformulas (hf : fOk F) (hc : cF σ F) (hs : cS σ F) (f : Int32) : mNP g l (d + 1) 86 [.ref 0, .int f] lk ex σ (.long (qSub F f)) := by
  have ok : mOkP md_X8_subformulas := ok_at 86 (by decide) rfl
  refine mC_of (md := md_X8_subformulas) rfl (lt_at (by decide)) rfl ?_
  unfold qSub
  refine mGo_run (n := 400) ok rfl ?_
  cases hv : vF F f with
  | none =>
    refine mGo_callP ok rfl (by omega) (c_has0 (d := d) hc.1 hf.2.1 (vF_none hf.2.1 hv)) ?_
    refine mGo_run (n := 400) ok rfl ?_
    refine mGo_if ok rfl (fun h => ?_) (fun h => ?_)
    · refine mGo_run (n := 400) ok rfl ?_
      exact mGo_ret ok rfl trivial (⟨rfl, rfl, rfl⟩)
    · exact absurd rfl h
  | some j =>
    obtain ⟨hj, rfl⟩ := vF_some hf.2.1 hv
    have hn := hf.2.1
    refine mGo_callP ok rfl (by omega) (c_has1 (d := d) hc.1 hf.2.1 hj) ?_
    refine mGo_run (n := 400) ok rfl ?_
    refine mGo_if ok rfl (fun h => ?_) (fun h => ?_)
    · exact absurd h (by decide)
    · refine mGo_run (n := 400) ok rfl ?_
      refine mGo_side ok rfl (nI_in (by omega) (by omega)) ?_
      refine mGo_run (n := 400) ok rfl ?_
      exact mGo_ret ok rfl trivial (⟨by rw [nI_clamp (by omega), (cS_at hf hs hj).2.2], rfl, rfl⟩)
theorem x_truthTable (hf : fOk F) (hc : cF σ F) (hs : cS σ F) (f : Int32) : mNP g l (d + 1) 87 [.ref 0, .int f] lk ex σ (.int (qTab F f)) := by
  have ok : mOkP md_X8_truthTable := ok_at 87 (by decide) rfl
  refine mC_of (md := md_X8_truthTable) rfl (lt_at (by decide)) rfl ?_
  unfold qTab
  refine mGo_run (n := 400) ok rfl ?_
  cases hv : vF F f with
  | none =>
    refine mGo_callP ok rfl (by omega) (c_has0 (d := d) hc.1 hf.2.1 (vF_none hf.2.1 hv)) ?_
    refine mGo_run (n := 400) ok rfl ?_
    refine mGo_if ok rfl (fun h => ?_) (fun h => ?_)
    · refine mGo_run (n := 400) ok rfl ?_
      exact mGo_ret ok rfl trivial (⟨rfl, rfl, rfl⟩)
    · exact absurd rfl h
  | some j =>
    obtain ⟨hj, rfl⟩ := vF_some hf.2.1 hv
    have hn := hf.2.1
    refine mGo_callP ok rfl (by omega) (c_has1 (d := d) hc.1 hf.2.1 hj) ?_
    refine mGo_run (n := 400) ok rfl ?_
    refine mGo_if ok rfl (fun h => ?_) (fun h => ?_)
    · exact absurd h (by decide)
    · refine mGo_run (n := 400) ok rfl ?_
      refine mGo_side ok rfl (nI_in (by omega) (by omega)) ?_
      refine mGo_run (n := 400) ok rfl ?_
      exact mGo_ret ok rfl trivial (⟨by rw [nI_clamp (by omega), (cS_at hf hs hj).2.1], rfl, rfl⟩)
theorem x_isEquivalent (hf : fOk F) (hc : cF σ F) (hs : cS σ F) (f h2 : Int32) : mNP g l (d + 1) 88 [.ref 0, .int f, .int h2] lk ex σ (.int (qEqv F f h2)) := by
  have ok : mOkP md_X8_isEquivalent := ok_at 88 (by decide) rfl
  refine mC_of (md := md_X8_isEquivalent) rfl (lt_at (by decide)) rfl ?_
  unfold qEqv
  refine mGo_run (n := 400) ok rfl ?_
  cases hv : vF F f with
  | none =>
    refine mGo_callP ok rfl (by omega) (c_has0 (d := d) hc.1 hf.2.1 (vF_none hf.2.1 hv)) ?_
    refine mGo_run (n := 400) ok rfl ?_
    refine mGo_if ok rfl (fun h => ?_) (fun h => ?_)
    · refine mGo_run (n := 400) ok rfl ?_
      exact mGo_ret ok rfl trivial (⟨rfl, rfl, rfl⟩)
    · exact absurd rfl h
  | some j =>
    obtain ⟨hj, rfl⟩ := vF_some hf.2.1 hv
    have hn := hf.2.1
    refine mGo_callP ok rfl (by omega) (c_has1 (d := d) hc.1 hf.2.1 hj) ?_
    refine mGo_run (n := 400) ok rfl ?_
    refine mGo_if ok rfl (fun h => ?_) (fun h => ?_)
    · exact absurd h (by decide)
    · refine mGo_run (n := 400) ok rfl ?_
      cases hv2 : vF F h2 with
      | none =>
        refine mGo_callP ok rfl (by omega) (c_has0 (d := d) hc.1 hf.2.1 (vF_none hf.2.1 hv2)) ?_
        refine mGo_run (n := 400) ok rfl ?_
        refine mGo_if ok rfl (fun h1 => ?_) (fun h1 => ?_)
        · refine mGo_run (n := 400) ok rfl ?_
          exact mGo_ret ok rfl trivial (⟨rfl, rfl, rfl⟩)
        · exact absurd rfl h1
      | some i =>
        obtain ⟨hi, rfl⟩ := vF_some hf.2.1 hv2
        refine mGo_callP ok rfl (by omega) (c_has1 (d := d) hc.1 hf.2.1 hi) ?_
        refine mGo_run (n := 400) ok rfl ?_
        refine mGo_if ok rfl (fun h1 => ?_) (fun h1 => ?_)
        · exact absurd h1 (by decide)
        · refine mGo_run (n := 400) ok rfl ?_
          refine mGo_side ok rfl (nI_in (by omega) (by omega)) ?_
          refine mGo_run (n := 400) ok rfl ?_
          refine mGo_side ok rfl (nI_in (by omega) (by omega)) ?_
          refine mGo_run (n := 400) ok rfl ?_
          rw [nI_clamp (by omega), nI_clamp (by omega), (cS_at hf hs hj).2.1, (cS_at hf hs hi).2.1]
          refine mGo_if ok rfl (fun h3 => ?_) (fun h3 => ?_)
          · refine mGo_run (n := 400) ok rfl ?_
            exact mGo_ret ok rfl trivial (⟨by simp only [if_pos h3], rfl, rfl⟩)
          · refine mGo_run (n := 400) ok rfl ?_
            exact mGo_ret ok rfl trivial (⟨by simp only [if_neg h3], rfl, rfl⟩)
theorem x_formulaCount (hc : cF σ F) : mNP g l d 77 [.ref 0] lk ex σ (.int (nI (aN F))) := by
  have ok : mOkP md_X8_formulaCount := ok_at 77 (by decide) rfl
  refine mC_of (md := md_X8_formulaCount) rfl (lt_at (by decide)) rfl ?_
  refine mGo_run (n := 400) ok rfl ?_
  exact mGo_ret ok rfl trivial (⟨by rw [hc.1], rfl, rfl⟩)
theorem x_negate (hf : fOk F) (hc : cF σ F) (hs : cS σ F) (f : Int32) : mNR g l (d + 3) 81 [.ref 0, .int f] lk ex σ (.int (qNeg F f).1) (fun σ1 => fr 1 8 σ σ1 ∧ cF σ1 (qNeg F f).2 ∧ cS σ1 (qNeg F f).2) := by
  have ok : mOkP md_X8_negate := ok_at 81 (by decide) rfl
  refine mC_of (md := md_X8_negate) rfl (lt_at (by decide)) rfl ?_
  unfold qNeg
  refine mGo_run (n := 400) ok rfl ?_
  cases hv : vF F f with
  | none =>
    refine mGo_callP ok rfl (by omega) (c_has0 (d := d) hc.1 hf.2.1 (vF_none hf.2.1 hv)) ?_
    refine mGo_run (n := 400) ok rfl ?_
    refine mGo_if ok rfl (fun h => ?_) (fun h => ?_)
    · refine mGo_run (n := 400) ok rfl ?_
      exact mGo_ret ok rfl trivial (⟨rfl, rfl, fr.refl, hc, hs⟩)
    · exact absurd rfl h
  | some j =>
    obtain ⟨hj, rfl⟩ := vF_some hf.2.1 hv
    refine mGo_callP ok rfl (by omega) (c_has1 (d := d) hc.1 hf.2.1 hj) ?_
    refine mGo_run (n := 400) ok rfl ?_
    refine mGo_if ok rfl (fun h => ?_) (fun h => ?_)
    · exact absurd h (by decide)
    · refine mGo_run (n := 400) ok rfl ?_
      refine mGo_callR ok rfl (by omega) (c_negationOf (d := d) hf hc hs hj) (fun σ1 hσ1 => ?_)
      refine mGo_run (n := 400) ok rfl ?_
      exact mGo_ret ok rfl trivial (⟨rfl, rfl, hσ1⟩)
theorem x_combine (hf : fOk F) (hc : cF σ F) (hs : cS σ F) (k f h2 : Int32) : mNR g l (d + 2) 82 [.ref 0, .int k, .int f, .int h2] lk ex σ (.int (qCom F k f h2).1) (fun σ1 => fr 1 8 σ σ1 ∧ cF σ1 (qCom F k f h2).2 ∧ cS σ1 (qCom F k f h2).2) := by
  have ok : mOkP md_X8_combine := ok_at 82 (by decide) rfl
  refine mC_of (md := md_X8_combine) rfl (lt_at (by decide)) rfl ?_
  unfold qCom
  refine mGo_run (n := 400) ok rfl ?_
  refine mGo_if ok rfl (fun h => ?_) (fun h => ?_)
  · refine mGo_run (n := 400) ok rfl ?_
    rw [if_neg (fun q => absurd h (Int32.not_lt.mpr q.1))]
    exact mGo_ret ok rfl trivial (⟨rfl, rfl, fr.refl, hc, hs⟩)
  · refine mGo_run (n := 400) ok rfl ?_
    refine mGo_if ok rfl (fun h1 => ?_) (fun h1 => ?_)
    · have hk : 2 ≤ k ∧ k ≤ 4 := ⟨Int32.not_lt.mp h, h1⟩
      rw [if_pos hk]
      obtain ⟨kn, hkn, rfl⟩ := nI_of2 (n := 4) (M := 4) (by decide) (fun z => absurd (Int32.lt_of_lt_of_le z (by decide : (0 : Int32) ≤ 2)) h) h1
      have hk2 : 2 ≤ kn := by
        rcases Nat.lt_or_ge kn 2 with z | z
        · exact absurd ((nI_ltI (a := kn) (b := 2) (by omega) (by omega)).mpr z) h
        · exact z
      rw [nI_clamp (by omega)]
      refine mGo_run (n := 400) ok rfl ?_
      cases hv : vF F f with
      | none =>
        refine mGo_callP ok rfl (by omega) (c_has0 (d := d) hc.1 hf.2.1 (vF_none hf.2.1 hv)) ?_
        refine mGo_run (n := 400) ok rfl ?_
        refine mGo_if ok rfl (fun h3 => ?_) (fun h3 => ?_)
        · refine mGo_run (n := 400) ok rfl ?_
          exact mGo_ret ok rfl trivial (⟨rfl, rfl, fr.refl, hc, hs⟩)
        · exact absurd rfl h3
      | some i =>
        obtain ⟨hi, rfl⟩ := vF_some hf.2.1 hv
        refine mGo_callP ok rfl (by omega) (c_has1 (d := d) hc.1 hf.2.1 hi) ?_
        refine mGo_run (n := 400) ok rfl ?_
        refine mGo_if ok rfl (fun h3 => ?_) (fun h3 => ?_)
        · exact absurd h3 (by decide)
        · refine mGo_run (n := 400) ok rfl ?_
          cases hv2 : vF F h2 with
          | none =>
            refine mGo_callP ok rfl (by omega) (c_has0 (d := d) hc.1 hf.2.1 (vF_none hf.2.1 hv2)) ?_
            refine mGo_run (n := 400) ok rfl ?_
            refine mGo_if ok rfl (fun h4 => ?_) (fun h4 => ?_)
            · refine mGo_run (n := 400) ok rfl ?_
              exact mGo_ret ok rfl trivial (⟨rfl, rfl, fr.refl, hc, hs⟩)
            · exact absurd rfl h4
          | some j =>
            obtain ⟨hj, rfl⟩ := vF_some hf.2.1 hv2
            refine mGo_callP ok rfl (by omega) (c_has1 (d := d) hc.1 hf.2.1 hj) ?_
            refine mGo_run (n := 400) ok rfl ?_
            refine mGo_if ok rfl (fun h4 => ?_) (fun h4 => ?_)
            · exact absurd h4 (by decide)
            · refine mGo_run (n := 400) ok rfl ?_
              have hmk := c_make (g := g) (l := l) (d := d) (lk := lk) (ex := ex) (k := kn) (a := i) (b := j) hf hc hs (by omega) hi hj (by omega)
              rw [if_neg (by omega)] at hmk
              refine mGo_callR ok rfl (by omega) (hmk) (fun σ1 hσ1 => ?_)
              refine mGo_run (n := 400) ok rfl ?_
              exact mGo_ret ok rfl trivial (⟨rfl, rfl, hσ1⟩)
    · refine mGo_run (n := 400) ok rfl ?_
      rw [if_neg (fun q => h1 q.2)]
      exact mGo_ret ok rfl trivial (⟨rfl, rfl, fr.refl, hc, hs⟩)
end T
end
section
/-! the reference: formulas asked for -/
theorem neg_nI {x : Nat} (hx : x < 40) : ¬ nI x = -1 := fun z => by
  have := congrArg Int32.toInt z
  rw [nI_toInt (by omega)] at this
  have : (x : Int) = -1 := this
  omega
/-- the reference's formulas where cells above 51 and those below 48 have changed -/
theorem mF_fr {lo hi : Nat} {σ σ1 : mHp} {F : aF} (h : fr lo hi σ σ1) (hlo : 52 ≤ lo ∨ hi ≤ 48) (hm : mF σ F) : mF σ1 F := by
  have e : ∀ i, 48 ≤ i → i < 52 → σ1.1 i = σ.1 i := fun i h1 h2 => (h i (by omega)).1
  rw [mF, e 48 (by omega) (by omega), e 49 (by omega) (by omega), e 50 (by omega) (by omega), e 51 (by omega) (by omega)]
  exact hm
section T
variable {g : mG} {l : Launch} {d : Nat} {lk : Nat} {ex : mSh} {σ : mHp} {F : aF}
theorem y_formulaCount (hm : mF σ F) : mNP g l d 123 [.ref 48] lk ex σ (.int (nI (aN F))) := by
  have ok : mOkP md_X9_formulaCount := ok_at 123 (by decide) rfl
  refine mC_of (md := md_X9_formulaCount) rfl (lt_at (by decide)) rfl ?_
  refine mGo_run (n := 400) ok rfl ?_
  exact mGo_ret ok rfl trivial (⟨by rw [hm.1], rfl, rfl⟩)
theorem y_kind (hf : fOk F) (hm : mF σ F) (f : Int32) : mNP g l (d + 2) 136 [.ref 48, .int f] lk ex σ (.int (qKind F f)) := by
  have ok : mOkP md_X9_kind := ok_at 136 (by decide) rfl
  refine mC_of (md := md_X9_kind) rfl (lt_at (by decide)) rfl ?_
  have hn := hf.2.1
  unfold qKind
  refine mGo_run (n := 400) ok rfl ?_
  cases hv : vF F f with
  | none =>
    refine mGo_callP ok rfl (by omega) (m_isFormula0 (d := d) hm.1 hf.1 hf.2.1 (vF_none hf.2.1 hv)) ?_
    refine mGo_run (n := 400) ok rfl ?_
    refine mGo_if ok rfl (fun h => ?_) (fun h => ?_)
    · refine mGo_run (n := 400) ok rfl ?_
      exact mGo_ret ok rfl trivial (⟨rfl, rfl, rfl⟩)
    · exact absurd rfl h
  | some j =>
    obtain ⟨hj, rfl⟩ := vF_some hf.2.1 hv
    refine mGo_callP ok rfl (by omega) (m_isFormula1 (d := d) hm.1 hf.1 hf.2.1 hj) ?_
    refine mGo_run (n := 400) ok rfl ?_
    refine mGo_if ok rfl (fun h => ?_) (fun h => ?_)
    · exact absurd h (by decide)
    · refine mGo_run (n := 400) ok rfl ?_
      refine mGo_side ok rfl (nI_in (by omega) (by omega)) ?_
      refine mGo_run (n := 400) ok rfl ?_
      exact mGo_ret ok rfl trivial (⟨by rw [nI_clamp (by omega), (hm.2 j hj).1], rfl, rfl⟩)
theorem y_part (hf : fOk F) (hm : mF σ F) (f w : Int32) : mNP g l (d + 2) 137 [.ref 48, .int f, .int w] lk ex σ (.int (qPart F f w)) := by
  have ok : mOkP md_X9_part := ok_at 137 (by decide) rfl
  refine mC_of (md := md_X9_part) rfl (lt_at (by decide)) rfl ?_
  have hn := hf.2.1
  unfold qPart
  refine mGo_run (n := 400) ok rfl ?_
  cases hv : vF F f with
  | none =>
    refine mGo_callP ok rfl (by omega) (m_isFormula0 (d := d) hm.1 hf.1 hf.2.1 (vF_none hf.2.1 hv)) ?_
    refine mGo_run (n := 400) ok rfl ?_
    refine mGo_if ok rfl (fun h => ?_) (fun h => ?_)
    · refine mGo_run (n := 400) ok rfl ?_
      exact mGo_ret ok rfl trivial (⟨rfl, rfl, rfl⟩)
    · exact absurd rfl h
  | some j =>
    obtain ⟨hj, rfl⟩ := vF_some hf.2.1 hv
    obtain ⟨w1, w2, w3, w4, w5, w6⟩ := hf.2.2 j hj
    obtain ⟨c1, c2, c3⟩ := hm.2 j hj
    have cj : (nI j).toNatClampNeg = j := nI_clamp (by omega)
    have hin : vp_in (nI j) 40 := nI_in (by omega) (by omega)
    refine mGo_callP ok rfl (by omega) (m_isFormula1 (d := d) hm.1 hf.1 hf.2.1 hj) ?_
    refine mGo_run (n := 400) ok rfl ?_
    refine mGo_if ok rfl (fun h => ?_) (fun h => ?_)
    · exact absurd h (by decide)
    · refine mGo_run (n := 400) ok rfl ?_
      refine mGo_callP ok rfl (by omega) (m_isIn (d := d + 1) w 0 1) ?_
      refine mGo_run (n := 400) ok rfl ?_
      refine mGo_if ok rfl (fun h0 => ?_) (fun h0 => ?_)
      · have hw : ¬ (0 ≤ w ∧ w ≤ 1) := fun z => by rw [if_pos z] at h0; exact absurd h0 (by decide)
        have n0 : ¬ w = 0 := fun z => hw (by rw [z]; decide)
        have n1 : ¬ w = 1 := fun z => hw (by rw [z]; decide)
        refine mGo_run (n := 400) ok rfl ?_
        exact mGo_ret ok rfl trivial (⟨by simp only [if_neg n0, if_neg n1], rfl, rfl⟩)
      · have hw : 0 ≤ w ∧ w ≤ 1 := by
          by_cases z : 0 ≤ w ∧ w ≤ 1
          · exact z
          · rw [if_neg z] at h0; exact absurd rfl h0
        have h01 : w = 0 ∨ w = 1 := by
          obtain ⟨kn, hkn, rfl⟩ := nI_of2 (n := 1) (M := 1) (by decide) (Int32.not_lt.mpr hw.1) hw.2
          rcases (show kn = 0 ∨ kn = 1 by omega) with rfl | rfl
          · exact Or.inl rfl
          · exact Or.inr rfl
        refine mGo_run (n := 400) ok rfl ?_
        refine mGo_side ok rfl (hin) ?_
        rw [cj, c1]
        refine mGo_run (n := 400) ok rfl ?_
        refine mGo_if ok rfl (fun hk => ?_) (fun hk => ?_)
        · have k0 : aK F j = 0 := (nI_eq (a := aK F j) (b := 0) (by omega) (by omega)).mp hk
          refine mGo_run (n := 400) ok rfl ?_
          exact mGo_ret ok rfl trivial (⟨by rcases h01 with rfl | rfl <;> simp [k0], rfl, rfl⟩)
        · have k0 : aK F j ≠ 0 := fun z => hk (by rw [z]; rfl)
          refine mGo_run (n := 400) ok rfl ?_
          refine mGo_if ok rfl (fun h1 => ?_) (fun h1 => ?_)
          · subst h1
            refine mGo_run (n := 400) ok rfl ?_
            refine mGo_side ok rfl (hin) ?_
            rw [cj, c1]
            refine mGo_run (n := 400) ok rfl ?_
            refine mGo_if ok rfl (fun hk1 => ?_) (fun hk1 => ?_)
            · have k1 : aK F j = 1 := (nI_eq (a := aK F j) (b := 1) (by omega) (by omega)).mp hk1
              refine mGo_run (n := 400) ok rfl ?_
              exact mGo_ret ok rfl trivial (⟨by simp [k1], rfl, rfl⟩)
            · have k1 : aK F j ≠ 1 := fun z => hk1 (by rw [z]; rfl)
              refine mGo_run (n := 400) ok rfl ?_
              refine mGo_if ok rfl (fun h2 => ?_) (fun h2 => ?_)
              · exact absurd h2 (by decide)
              · refine mGo_run (n := 400) ok rfl ?_
                refine mGo_side ok rfl (hin) ?_
                rw [cj, c3]
                refine mGo_run (n := 400) ok rfl ?_
                exact mGo_ret ok rfl trivial (⟨by simp only [if_neg (show ¬ (1 : Int32) = 0 by decide), if_true, if_neg (show ¬ aK F j < 2 by omega)], rfl, rfl⟩)
          · have e : w = 0 := h01.resolve_right h1
            subst e
            refine mGo_run (n := 400) ok rfl ?_
            refine mGo_if ok rfl (fun h2 => ?_) (fun h2 => ?_)
            · refine mGo_run (n := 400) ok rfl ?_
              refine mGo_side ok rfl (hin) ?_
              rw [cj, c2]
              refine mGo_run (n := 400) ok rfl ?_
              exact mGo_ret ok rfl trivial (⟨by simp only [if_true, if_neg k0], rfl, rfl⟩)
            · exact absurd rfl h2
theorem y_size (hf : fOk F) (hm : mF σ F) (f : Int32) : mNR g l (d + 2) 138 [.ref 48, .int f] lk ex σ (.int (qSize F f)) (fun σ1 => fr 53 54 σ σ1) := by
  have ok : mOkP md_X9_size := ok_at 138 (by decide) rfl
  refine mC_of (md := md_X9_size) rfl (lt_at (by decide)) rfl ?_
  have hn := hf.2.1
  unfold qSize
  refine mGo_run (n := 400) ok rfl ?_
  cases hv : vF F f with
  | none =>
    refine mGo_callP ok rfl (by omega) (m_isFormula0 (d := d) hm.1 hf.1 hf.2.1 (vF_none hf.2.1 hv)) ?_
    refine mGo_run (n := 400) ok rfl ?_
    refine mGo_if ok rfl (fun h => ?_) (fun h => ?_)
    · refine mGo_run (n := 400) ok rfl ?_
      exact mGo_ret ok rfl trivial (⟨rfl, rfl, fr.refl⟩)
    · exact absurd rfl h
  | some j =>
    obtain ⟨hj, rfl⟩ := vF_some hf.2.1 hv
    refine mGo_callP ok rfl (by omega) (m_isFormula1 (d := d) hm.1 hf.1 hf.2.1 hj) ?_
    refine mGo_run (n := 400) ok rfl ?_
    refine mGo_if ok rfl (fun h => ?_) (fun h => ?_)
    · exact absurd h (by decide)
    · refine mGo_runS 13 (n := 400) ok rfl ?_
      have loop : ∀ m i : Nat, i + m = j + 1 → ∀ τ : mHp, fr 53 54 σ τ → (∀ x, x < i → τ.1 53 x = fSz F x) → mGo g l (d + 2) md_X9_size (SH lk ex).length (mTot (SH lk ex)) (13, [some (.ref 48), some (.int (nI j)), some (.int (nI i)), none], [], SH lk ex, τ) (fun r sp σ1 => r = some (.int (fSz F j)) ∧ sp = SH lk ex ∧ fr 53 54 σ σ1) := by
        intro m
        induction m with
        | zero =>
          intro i hi τ ht hv
          refine mGo_run (n := 400) ok rfl ?_
          refine mGo_if ok rfl (fun h1 => ?_) (fun h1 => ?_)
          · refine mGo_run (n := 400) ok rfl ?_
            refine mGo_side ok rfl (nI_in (by omega) (by omega)) ?_
            refine mGo_run (n := 400) ok rfl ?_
            exact mGo_ret ok rfl trivial (⟨by rw [nI_clamp (by omega), hv j (by omega)], rfl, ht⟩)
          · exact absurd ((nI_ltI (a := j) (b := i) (by omega) (by omega)).mpr (by omega)) h1
        | succ m ih =>
          intro i hi τ ht hv
          have hin : i < aN F := by omega
          have hmt := mF_fr ht (Or.inl (by omega)) hm
          obtain ⟨w1, w2, w3, w4, w5, w6⟩ := hf.2.2 i hin
          obtain ⟨c1, c2, c3⟩ := hmt.2 i hin
          have ci : (nI i).toNatClampNeg = i := nI_clamp (by omega)
          have hv0 : vp_in (nI i) 40 := nI_in (by omega) (by omega)
          have hmono : ∀ v : Int32, v = fSz F i → mGo g l (d + 2) md_X9_size (SH lk ex).length (mTot (SH lk ex)) (13, [some (.ref 48), some (.int (nI j)), some (.int (nI (i + 1))), none], [], SH lk ex, mWI τ 53 i v) (fun r sp σ1 => r = some (.int (fSz F j)) ∧ sp = SH lk ex ∧ fr 53 54 σ σ1) := by
            intro v hv1
            refine ih (i + 1) (by omega) _ (ht.WI (by omega) (by omega)) (fun x hx => ?_)
            rw [WI_at]
            by_cases e : x = i
            · subst e; simp [hv1]
            · simp [e]; exact hv x (by omega)
          have store : ∀ x : Int32, (if 1000 < x then (1000 : Int32) else x) = fSz F i → mGo g l (d + 2) md_X9_size (SH lk ex).length (mTot (SH lk ex)) (70, [some (.ref 48), some (.int (nI j)), some (.int (nI i)), none], [.int x], SH lk ex, τ) (fun r sp σ1 => r = some (.int (fSz F j)) ∧ sp = SH lk ex ∧ fr 53 54 σ σ1) := by
            intro x hx
            refine mGo_run (n := 400) ok rfl ?_
            refine mGo_callP ok rfl (by omega) (c_min (d := d + 1) x 1000) ?_
            refine mGo_run (n := 400) ok rfl ?_
            refine mGo_side ok rfl (hv0) ?_
            rw [ci]
            refine mGo_runS 13 (n := 400) ok rfl ?_
            rw [nI_1]
            exact mGo_weak (L' := [some (.ref 48), some (.int (nI j)), some (.int (nI (i + 1))), none]) ⟨rfl, rfl, rfl, trivial⟩ (hmono _ hx)
          have hstep : szR F (τ.1 53) i = fSz F i := rc_next (szL hf) hin hv
          refine mGo_run (n := 400) ok rfl ?_
          refine mGo_if ok rfl (fun h1 => ?_) (fun h1 => ?_)
          · exact absurd ((nI_ltI (a := j) (b := i) (by omega) (by omega)).mp h1) (by omega)
          · refine mGo_run (n := 400) ok rfl ?_
            refine mGo_side ok rfl (hv0) ?_
            rw [ci, c1]
            refine mGo_run (n := 400) ok rfl ?_
            refine mGo_if ok rfl (fun hk => ?_) (fun hk => ?_)
            · have k0 : aK F i = 0 := (nI_eq (a := aK F i) (b := 0) (by omega) (by omega)).mp hk
              refine mGo_runS 70 (n := 400) ok rfl ?_
              refine store 1 ?_
              rw [← hstep, szR, if_pos k0]; decide
            · have k0 : aK F i ≠ 0 := fun z => hk (by rw [z]; rfl)
              have hA := w3 k0
              have cA : (nI (aA F i)).toNatClampNeg = aA F i := nI_clamp (by omega)
              refine mGo_run (n := 400) ok rfl ?_
              refine mGo_side ok rfl (hv0) ?_
              rw [ci, c2]
              refine mGo_side ok rfl (nI_in (by omega) (by omega)) ?_
              rw [cA]
              refine mGo_run (n := 400) ok rfl ?_
              refine mGo_side ok rfl (hv0) ?_
              rw [ci, c1]
              refine mGo_run (n := 400) ok rfl ?_
              have fin : ∀ y : Int32, (if aK F i = 1 then (0 : Int32) else τ.1 53 (aB F i)) = y → (if 1000 < 1 + τ.1 53 (aA F i) + y then (1000 : Int32) else 1 + τ.1 53 (aA F i) + y) = fSz F i := by
                intro y hy
                rw [← hstep, szR, if_neg k0, hy]
                by_cases q : 1 + τ.1 53 (aA F i) + y < 1000
                · rw [if_pos q, if_neg (fun z => Int32.lt_irrefl (Int32.lt_trans z q))]
                · rw [if_neg q]
                  by_cases q2 : 1000 < 1 + τ.1 53 (aA F i) + y
                  · rw [if_pos q2]
                  · rw [if_neg q2]; exact Int32.le_antisymm (Int32.not_lt.mp q2) (Int32.not_lt.mp q)
              refine mGo_if ok rfl (fun hk1 => ?_) (fun hk1 => ?_)
              · have k1 : aK F i = 1 := (nI_eq (a := aK F i) (b := 1) (by omega) (by omega)).mp hk1
                refine mGo_runS 70 (n := 400) ok rfl ?_
                exact store _ (fin 0 (by rw [if_pos k1]))
              · have k1 : aK F i ≠ 1 := fun z => hk1 (by rw [z]; rfl)
                have hB := w4 (by omega)
                have cB : (nI (aB F i)).toNatClampNeg = aB F i := nI_clamp (by omega)
                refine mGo_run (n := 400) ok rfl ?_
                refine mGo_side ok rfl (hv0) ?_
                rw [ci, c3]
                refine mGo_side ok rfl (nI_in (by omega) (by omega)) ?_
                rw [cB]
                refine mGo_runS 70 (n := 400) ok rfl ?_
                exact store _ (fin _ (by rw [if_neg k1]))
      exact loop (j + 1) 0 (by omega) σ fr.refl (fun x hx => by omega)
theorem y_subformulas (hf : fOk F) (hm : mF σ F) (f : Int32) : mNR g l (d + 2) 139 [.ref 48, .int f] lk ex σ (.long (qSub F f)) (fun σ1 => fr 55 56 σ σ1) := by
  have ok : mOkP md_X9_subformulas := ok_at 139 (by decide) rfl
  refine mC_of (md := md_X9_subformulas) rfl (lt_at (by decide)) rfl ?_
  have hn := hf.2.1
  unfold qSub
  refine mGo_run (n := 400) ok rfl ?_
  cases hv : vF F f with
  | none =>
    refine mGo_callP ok rfl (by omega) (m_isFormula0 (d := d) hm.1 hf.1 hf.2.1 (vF_none hf.2.1 hv)) ?_
    refine mGo_run (n := 400) ok rfl ?_
    refine mGo_if ok rfl (fun h => ?_) (fun h => ?_)
    · refine mGo_run (n := 400) ok rfl ?_
      exact mGo_ret ok rfl trivial (⟨rfl, rfl, fr.refl⟩)
    · exact absurd rfl h
  | some j =>
    obtain ⟨hj, rfl⟩ := vF_some hf.2.1 hv
    refine mGo_callP ok rfl (by omega) (m_isFormula1 (d := d) hm.1 hf.1 hf.2.1 hj) ?_
    refine mGo_run (n := 400) ok rfl ?_
    refine mGo_if ok rfl (fun h => ?_) (fun h => ?_)
    · exact absurd h (by decide)
    · refine mGo_runS 14 (n := 400) ok rfl ?_
      have loop : ∀ m i : Nat, i + m = j + 1 → ∀ τ : mHp, fr 55 56 σ τ → (∀ x, x < i → τ.2.1 55 x = fSb F x) → mGo g l (d + 2) md_X9_subformulas (SH lk ex).length (mTot (SH lk ex)) (14, [some (.ref 48), some (.int (nI j)), some (.int (nI i))], [], SH lk ex, τ) (fun r sp σ1 => r = some (.long (fSb F j)) ∧ sp = SH lk ex ∧ fr 55 56 σ σ1) := by
        intro m
        induction m with
        | zero =>
          intro i hi τ ht hv
          refine mGo_run (n := 400) ok rfl ?_
          refine mGo_if ok rfl (fun h1 => ?_) (fun h1 => ?_)
          · refine mGo_run (n := 400) ok rfl ?_
            refine mGo_side ok rfl (nI_in (by omega) (by omega)) ?_
            refine mGo_run (n := 400) ok rfl ?_
            exact mGo_ret ok rfl trivial (⟨by rw [nI_clamp (by omega), hv j (by omega)], rfl, ht⟩)
          · exact absurd ((nI_ltI (a := j) (b := i) (by omega) (by omega)).mpr (by omega)) h1
        | succ m ih =>
          intro i hi τ ht hv
          have hin : i < aN F := by omega
          have hmt := mF_fr ht (Or.inl (by omega)) hm
          obtain ⟨w1, w2, w3, w4, w5, w6⟩ := hf.2.2 i hin
          obtain ⟨c1, c2, c3⟩ := hmt.2 i hin
          have ci : (nI i).toNatClampNeg = i := nI_clamp (by omega)
          have hv0 : vp_in (nI i) 40 := nI_in (by omega) (by omega)
          have hstep : sbR F (τ.2.1 55) i = fSb F i := rc_next (sbL hf) hin hv
          have last : ∀ (v1 v2 v3 : Int64), v3 = fSb F i → mGo g l (d + 2) md_X9_subformulas (SH lk ex).length (mTot (SH lk ex)) (14, [some (.ref 48), some (.int (nI j)), some (.int (nI (i + 1)))], [], SH lk ex, mWL (mWL (mWL τ 55 i v1) 55 i v2) 55 i v3) (fun r sp σ1 => r = some (.long (fSb F j)) ∧ sp = SH lk ex ∧ fr 55 56 σ σ1) := by
            intro v1 v2 v3 hv3
            refine ih (i + 1) (by omega) _ (((ht.WL (by omega) (by omega)).WL (by omega) (by omega)).WL (by omega) (by omega)) (fun x hx => ?_)
            simp only [WL_at]
            by_cases e : x = i
            · subst e; simp [hv3]
            · simp [e]; exact hv x (by omega)
          have bz : (bit i ||| 0) ||| 0 = bit i := by simp
          refine mGo_run (n := 400) ok rfl ?_
          refine mGo_if ok rfl (fun h1 => ?_) (fun h1 => ?_)
          · exact absurd ((nI_ltI (a := j) (b := i) (by omega) (by omega)).mp h1) (by omega)
          · refine mGo_run (n := 400) ok rfl ?_
            refine mGo_side ok rfl (hv0) ?_
            rw [ci]
            refine mGo_run (n := 400) ok rfl ?_
            refine mGo_side ok rfl (hv0) ?_
            rw [ci]
            refine mGo_run (n := 400) ok rfl ?_
            refine mGo_side ok rfl (hv0) ?_
            rw [ci, show (mWL τ 55 i ((1 : Int64) <<< ((nI i).toInt64 &&& 63))).1 49 i = nI (aK F i) from c1]
            refine mGo_run (n := 400) ok rfl ?_
            refine mGo_if ok rfl (fun hk => ?_) (fun hk => ?_)
            · have k0 : aK F i = 0 := (nI_eq (a := aK F i) (b := 0) (by omega) (by omega)).mp hk
              refine mGo_run (n := 400) ok rfl ?_
              refine mGo_side ok rfl (hv0) ?_
              rw [ci]
              refine mGo_run (n := 400) ok rfl ?_
              refine mGo_side ok rfl (hv0) ?_
              rw [ci]
              refine mGo_run (n := 400) ok rfl ?_
              refine mGo_side ok rfl (hv0) ?_
              rw [ci]
              refine mGo_run (n := 400) ok rfl ?_
              refine mGo_if ok rfl (fun h2 => ?_) (fun h2 => ?_)
              · exact absurd (show nI 2 ≤ nI (aK F i) from c1 ▸ h2) (nI_ge (by omega) (by omega))
              · refine mGo_run (n := 400) ok rfl ?_
                refine mGo_side ok rfl (hv0) ?_
                rw [ci]
                refine mGo_runS 14 (n := 400) ok rfl ?_
                rw [nI_1]
                refine last _ _ _ ?_
                rw [← hstep, sbR, if_pos k0]
                simp only [WL_at, and_self, if_true]
                exact bz
            · have k0 : aK F i ≠ 0 := fun z => hk (by rw [z]; rfl)
              have hA := w3 k0
              have cA : (nI (aA F i)).toNatClampNeg = aA F i := nI_clamp (by omega)
              refine mGo_run (n := 400) ok rfl ?_
              refine mGo_side ok rfl (hv0) ?_
              rw [ci, show (mWL τ 55 i ((1 : Int64) <<< ((nI i).toInt64 &&& 63))).1 50 i = nI (aA F i) from c2]
              refine mGo_side ok rfl (nI_in (by omega) (by omega)) ?_
              rw [cA]
              refine mGo_run (n := 400) ok rfl ?_
              refine mGo_side ok rfl (hv0) ?_
              rw [ci]
              refine mGo_run (n := 400) ok rfl ?_
              refine mGo_side ok rfl (hv0) ?_
              rw [ci]
              refine mGo_run (n := 400) ok rfl ?_
              refine mGo_side ok rfl (hv0) ?_
              rw [ci]
              refine mGo_run (n := 400) ok rfl ?_
              refine mGo_if ok rfl (fun h2 => ?_) (fun h2 => ?_)
              · have k2 : 2 ≤ aK F i := by
                  rcases Nat.lt_or_ge (aK F i) 2 with q | q
                  · exact absurd (show nI 2 ≤ nI (aK F i) from c1 ▸ h2) (nI_ge q (by omega))
                  · exact q
                have hB := w4 k2
                have cB : (nI (aB F i)).toNatClampNeg = aB F i := nI_clamp (by omega)
                refine mGo_run (n := 400) ok rfl ?_
                refine mGo_side ok rfl (hv0) ?_
                rw [ci]
                refine mGo_side ok rfl (show vp_in _ 40 from ?_) ?_
                · show vp_in (τ.1 51 i) 40
                  rw [c3]; exact nI_in (by omega) (by omega)
                refine mGo_run (n := 400) ok rfl ?_
                refine mGo_side ok rfl (hv0) ?_
                rw [ci]
                refine mGo_runS 14 (n := 400) ok rfl ?_
                rw [nI_1]
                refine last _ _ _ ?_
                rw [← hstep, sbR, if_neg k0, if_neg (by omega)]
                have e51 : (τ.1 51 i).toNatClampNeg = aB F i := by rw [c3]; exact cB
                have nA : aA F i ≠ i := by omega
                have nB : aB F i ≠ i := by omega
                show ((mWL (mWL τ 55 i _) 55 i _).2.1 55 i ||| (mWL (mWL τ 55 i _) 55 i _).2.1 55 (τ.1 51 i).toNatClampNeg) = _
                rw [e51]
                simp only [WL_at, and_self, if_true, nA, nB, and_false, if_false]
                rfl
              · have k1 : aK F i = 1 := by
                  rcases Nat.lt_or_ge (aK F i) 2 with q | q
                  · omega
                  · exact absurd (show (2 : Int32) ≤ _ from by show nI 2 ≤ τ.1 49 i; rw [c1]; exact nI_le q (by omega)) h2
                refine mGo_run (n := 400) ok rfl ?_
                refine mGo_side ok rfl (hv0) ?_
                rw [ci]
                refine mGo_runS 14 (n := 400) ok rfl ?_
                rw [nI_1]
                refine last _ _ _ ?_
                have nA : aA F i ≠ i := by omega
                rw [← hstep, sbR, if_neg k0, if_pos k1]
                simp only [WL_at, and_self, if_true, nA, and_false, if_false]
                rfl
      exact loop (j + 1) 0 (by omega) σ fr.refl (fun x hx => by omega)
end T
end
section
/-! the reference: truth tables, negate, combine -/
/-- the table of an atom, k rows of it -/
def atP (i : Nat) : Nat → Int32
  | 0 => 0
  | k + 1 => atP i k ||| (((nI k >>> (nI i &&& 31)) &&& 1) <<< (nI k &&& 31))
theorem atP_16 : ∀ i, i < 4 → atP i 16 = atT i := by decide +kernel
section T
variable {g : mG} {l : Launch} {d : Nat} {lk : Nat} {ex : mSh} {σ : mHp} {F : aF}
theorem m_tableOf (hf : fOk F) (hm : mF σ F) {j : Nat} (hj : j < aN F) : mNR g l d 140 [.ref 48, .int (nI j)] lk ex σ (.int (fTb F j)) (fun σ1 => fr 54 55 σ σ1) := by
  have ok : mOkP md_X9_tableOf := ok_at 140 (by decide) rfl
  refine mC_of (md := md_X9_tableOf) rfl (lt_at (by decide)) rfl ?_
  have hn := hf.2.1
  refine mGo_runS 2 (n := 400) ok rfl ?_
  have loop : ∀ m i : Nat, i + m = j + 1 → ∀ τ : mHp, fr 54 55 σ τ → (∀ x, x < i → τ.1 54 x = fTb F x) → mGo g l d md_X9_tableOf (SH lk ex).length (mTot (SH lk ex)) (2, [some (.ref 48), some (.int (nI j)), some (.int (nI i)), none, none, none], [], SH lk ex, τ) (fun r sp σ1 => r = some (.int (fTb F j)) ∧ sp = SH lk ex ∧ fr 54 55 σ σ1) := by
    intro m
    induction m with
    | zero =>
      intro i hi τ ht hv
      refine mGo_run (n := 400) ok rfl ?_
      refine mGo_if ok rfl (fun h1 => ?_) (fun h1 => ?_)
      · refine mGo_run (n := 400) ok rfl ?_
        refine mGo_side ok rfl (nI_in (by omega) (by omega)) ?_
        refine mGo_run (n := 400) ok rfl ?_
        exact mGo_ret ok rfl trivial (⟨by rw [nI_clamp (by omega), hv j (by omega)], rfl, ht⟩)
      · exact absurd ((nI_ltI (a := j) (b := i) (by omega) (by omega)).mpr (by omega)) h1
    | succ m ih =>
      intro i hi τ ht hv
      have hin : i < aN F := by omega
      have hmt := mF_fr ht (Or.inl (by omega)) hm
      obtain ⟨w1, w2, w3, w4, w5, w6⟩ := hf.2.2 i hin
      obtain ⟨c1, c2, c3⟩ := hmt.2 i hin
      have ci : (nI i).toNatClampNeg = i := nI_clamp (by omega)
      have hv0 : vp_in (nI i) 40 := nI_in (by omega) (by omega)
      have hA : aA F i < 40 := by
        by_cases z : aK F i = 0
        · rw [w6 z]; omega
        · have := w3 z; omega
      have hB : aB F i < 40 := by
        by_cases z : aK F i < 2
        · rw [w5 z]; omega
        · have := w4 (by omega); omega
      have cA : (nI (aA F i)).toNatClampNeg = aA F i := nI_clamp (by omega)
      have cB : (nI (aB F i)).toNatClampNeg = aB F i := nI_clamp (by omega)
      have hstep : tbR F (τ.1 54) i = fTb F i := rc_next (tbL hf) hin hv
      have done : ∀ (τ1 : mHp) (L3 L4 L5 : Option Value), fr 54 55 σ τ1 → (∀ x, x < i → τ1.1 54 x = τ.1 54 x) → τ1.1 54 i = fTb F i → mGo g l d md_X9_tableOf (SH lk ex).length (mTot (SH lk ex)) (168, [some (.ref 48), some (.int (nI j)), some (.int (nI i)), L3, L4, L5], [], SH lk ex, τ1) (fun r sp σ1 => r = some (.int (fTb F j)) ∧ sp = SH lk ex ∧ fr 54 55 σ σ1) := by
        intro τ1 L3 L4 L5 h1 h2 h3
        refine mGo_runS 2 (n := 400) ok rfl ?_
        rw [nI_1]
        refine mGo_weak (L' := [some (.ref 48), some (.int (nI j)), some (.int (nI (i + 1))), none, none, none]) ⟨rfl, rfl, rfl, trivial⟩ (ih (i + 1) (by omega) τ1 h1 (fun x hx => ?_))
        by_cases e : x = i
        · subst e; exact h3
        · rw [h2 x (by omega)]; exact hv x (by omega)
      have put : ∀ (v : Int32) (L3 L4 L5 : Option Value), v = fTb F i → mGo g l d md_X9_tableOf (SH lk ex).length (mTot (SH lk ex)) (168, [some (.ref 48), some (.int (nI j)), some (.int (nI i)), L3, L4, L5], [], SH lk ex, mWI τ 54 i v) (fun r sp σ1 => r = some (.int (fTb F j)) ∧ sp = SH lk ex ∧ fr 54 55 σ σ1) := by
        intro v L3 L4 L5 hv1
        refine done _ _ _ _ (ht.WI (by omega) (by omega)) (fun x hx => ?_) (by simp [WI_at, hv1])
        rw [WI_at, if_neg (by omega)]
      refine mGo_run (n := 400) ok rfl ?_
      refine mGo_if ok rfl (fun h1 => ?_) (fun h1 => ?_)
      · exact absurd ((nI_ltI (a := j) (b := i) (by omega) (by omega)).mp h1) (by omega)
      · refine mGo_run (n := 400) ok rfl ?_
        refine mGo_side ok rfl (hv0) ?_
        rw [ci, c2]
        refine mGo_side ok rfl (nI_in (by omega) (by omega)) ?_
        rw [cA]
        refine mGo_run (n := 400) ok rfl ?_
        refine mGo_side ok rfl (hv0) ?_
        rw [ci, c3]
        refine mGo_side ok rfl (nI_in (by omega) (by omega)) ?_
        rw [cB]
        refine mGo_run (n := 400) ok rfl ?_
        refine mGo_side ok rfl (hv0) ?_
        rw [ci, c1]
        refine mGo_sw ok rfl ⟨fun h2 => ?_, fun h2 => ⟨fun h3 => ?_, fun h3 => ⟨fun h4 => ?_, fun h4 => ⟨fun h5 => ?_, fun h5 => ?_⟩⟩⟩⟩
        · have k0 : aK F i = 0 := (nI_eq (a := aK F i) (b := 0) (by omega) (by omega)).mp h2
          have hi4 : i < 4 := w1.mp k0
          refine mGo_run (n := 400) ok rfl ?_
          refine mGo_side ok rfl (hv0) ?_
          rw [ci]
          refine mGo_runS 78 (n := 400) ok rfl ?_
          have inner : ∀ m2 k : Nat, k + m2 = 16 → ∀ τ1 : mHp, fr 54 55 σ τ1 → (∀ x, x < i → τ1.1 54 x = τ.1 54 x) → τ1.1 54 i = atP i k → mGo g l d md_X9_tableOf (SH lk ex).length (mTot (SH lk ex)) (78, [some (.ref 48), some (.int (nI j)), some (.int (nI i)), some (.int (τ.1 54 (aA F i))), some (.int (τ.1 54 (aB F i))), some (.int (nI k))], [], SH lk ex, τ1) (fun r sp σ1 => r = some (.int (fTb F j)) ∧ sp = SH lk ex ∧ fr 54 55 σ σ1) := by
            intro m2
            induction m2 with
            | zero =>
              intro k hk τ1 g1 g2 g3
              have : k = 16 := by omega
              subst this
              refine mGo_run (n := 400) ok rfl ?_
              refine mGo_if ok rfl (fun q => ?_) (fun q => ?_)
              · refine mGo_runS 168 (n := 400) ok rfl ?_
                refine done _ _ _ _ g1 g2 ?_
                rw [g3, atP_16 i hi4, ← hstep, tbR, if_pos k0]
              · exact absurd (by decide) q
            | succ m2 ih2 =>
              intro k hk τ1 g1 g2 g3
              refine mGo_run (n := 400) ok rfl ?_
              refine mGo_if ok rfl (fun q => ?_) (fun q => ?_)
              · exact absurd q (nI_ge (a := k) (b := 16) (by omega) (by omega))
              · refine mGo_run (n := 400) ok rfl ?_
                refine mGo_side ok rfl (hv0) ?_
                rw [ci]
                refine mGo_run (n := 400) ok rfl ?_
                refine mGo_side ok rfl (hv0) ?_
                rw [ci, g3]
                refine mGo_runS 78 (n := 400) ok rfl ?_
                rw [nI_1]
                refine ih2 (k + 1) (by omega) _ (g1.WI (by omega) (by omega)) (fun x hx => ?_) ?_
                · rw [WI_at, if_neg (by omega)]; exact g2 x hx
                · simp [WI_at, atP]
          exact inner 16 0 (by omega) _ (ht.WI (by omega) (by omega)) (fun x hx => by rw [WI_at, if_neg (by omega)]) (by simp [WI_at, atP])
        · have k1 : aK F i = 1 := (nI_eq (a := aK F i) (b := 1) (by omega) (by omega)).mp h3
          refine mGo_run (n := 400) ok rfl ?_
          refine mGo_side ok rfl (hv0) ?_
          rw [ci]
          refine mGo_runS 168 (n := 400) ok rfl ?_
          refine put _ _ _ _ ?_
          rw [← hstep, tbR, if_neg (by omega), tbK, if_pos k1]
        · have k1 : aK F i = 2 := (nI_eq (a := aK F i) (b := 2) (by omega) (by omega)).mp h4
          refine mGo_run (n := 400) ok rfl ?_
          refine mGo_side ok rfl (hv0) ?_
          rw [ci]
          refine mGo_runS 168 (n := 400) ok rfl ?_
          refine put _ _ _ _ ?_
          rw [← hstep, tbR, if_neg (by omega), tbK, if_neg (by omega), if_pos k1, if_neg (by omega)]
        · have k1 : aK F i = 3 := (nI_eq (a := aK F i) (b := 3) (by omega) (by omega)).mp h5
          refine mGo_run (n := 400) ok rfl ?_
          refine mGo_side ok rfl (hv0) ?_
          rw [ci]
          refine mGo_runS 168 (n := 400) ok rfl ?_
          refine put _ _ _ _ ?_
          rw [← hstep, tbR, if_neg (by omega), tbK, if_neg (by omega), if_neg (by omega), if_pos k1, if_neg (by omega)]
        · have k1 : aK F i = 4 := by
            have n0 : aK F i ≠ 0 := fun z => h2 (by rw [z]; rfl)
            have n1 : aK F i ≠ 1 := fun z => h3 (by rw [z]; rfl)
            have n2 : aK F i ≠ 2 := fun z => h4 (by rw [z]; rfl)
            have n3 : aK F i ≠ 3 := fun z => h5 (by rw [z]; rfl)
            omega
          refine mGo_run (n := 400) ok rfl ?_
          refine mGo_side ok rfl (hv0) ?_
          rw [ci]
          refine put _ _ _ _ ?_
          rw [← hstep, tbR, if_neg (by omega), tbK, if_neg (by omega), if_neg (by omega), if_neg (by omega), if_neg (by omega)]
  exact loop (j + 1) 0 (by omega) σ fr.refl (fun x hx => by omega)
theorem y_truthTable (hf : fOk F) (hm : mF σ F) (f : Int32) : mNR g l (d + 2) 141 [.ref 48, .int f] lk ex σ (.int (qTab F f)) (fun σ1 => fr 54 55 σ σ1) := by
  have ok : mOkP md_X9_truthTable := ok_at 141 (by decide) rfl
  refine mC_of (md := md_X9_truthTable) rfl (lt_at (by decide)) rfl ?_
  unfold qTab
  refine mGo_run (n := 400) ok rfl ?_
  cases hv : vF F f with
  | none =>
    refine mGo_callP ok rfl (by omega) (m_isFormula0 (d := d) hm.1 hf.1 hf.2.1 (vF_none hf.2.1 hv)) ?_
    refine mGo_run (n := 400) ok rfl ?_
    refine mGo_if ok rfl (fun h => ?_) (fun h => ?_)
    · refine mGo_run (n := 400) ok rfl ?_
      exact mGo_ret ok rfl trivial (⟨rfl, rfl, fr.refl⟩)
    · exact absurd rfl h
  | some j =>
    obtain ⟨hj, rfl⟩ := vF_some hf.2.1 hv
    refine mGo_callP ok rfl (by omega) (m_isFormula1 (d := d) hm.1 hf.1 hf.2.1 hj) ?_
    refine mGo_run (n := 400) ok rfl ?_
    refine mGo_if ok rfl (fun h => ?_) (fun h => ?_)
    · exact absurd h (by decide)
    · refine mGo_run (n := 400) ok rfl ?_
      refine mGo_callR ok rfl (by omega) (m_tableOf (d := d) hf hm hj) (fun σ1 hσ1 => ?_)
      refine mGo_run (n := 400) ok rfl ?_
      exact mGo_ret ok rfl trivial (⟨rfl, rfl, hσ1⟩)
theorem y_isEquivalent (hf : fOk F) (hm : mF σ F) (f h2 : Int32) : mNR g l (d + 2) 142 [.ref 48, .int f, .int h2] lk ex σ (.int (qEqv F f h2)) (fun σ1 => fr 54 55 σ σ1) := by
  have ok : mOkP md_X9_isEquivalent := ok_at 142 (by decide) rfl
  refine mC_of (md := md_X9_isEquivalent) rfl (lt_at (by decide)) rfl ?_
  unfold qEqv
  refine mGo_run (n := 400) ok rfl ?_
  cases hv : vF F f with
  | none =>
    refine mGo_callP ok rfl (by omega) (m_isFormula0 (d := d) hm.1 hf.1 hf.2.1 (vF_none hf.2.1 hv)) ?_
    refine mGo_run (n := 400) ok rfl ?_
    refine mGo_if ok rfl (fun h => ?_) (fun h => ?_)
    · refine mGo_run (n := 400) ok rfl ?_
      exact mGo_ret ok rfl trivial (⟨rfl, rfl, fr.refl⟩)
    · exact absurd rfl h
  | some j =>
    obtain ⟨hj, rfl⟩ := vF_some hf.2.1 hv
    refine mGo_callP ok rfl (by omega) (m_isFormula1 (d := d) hm.1 hf.1 hf.2.1 hj) ?_
    refine mGo_run (n := 400) ok rfl ?_
    refine mGo_if ok rfl (fun h => ?_) (fun h => ?_)
    · exact absurd h (by decide)
    · refine mGo_run (n := 400) ok rfl ?_
      cases hv2 : vF F h2 with
      | none =>
        refine mGo_callP ok rfl (by omega) (m_isFormula0 (d := d) hm.1 hf.1 hf.2.1 (vF_none hf.2.1 hv2)) ?_
        refine mGo_run (n := 400) ok rfl ?_
        refine mGo_if ok rfl (fun h1 => ?_) (fun h1 => ?_)
        · refine mGo_run (n := 400) ok rfl ?_
          exact mGo_ret ok rfl trivial (⟨rfl, rfl, fr.refl⟩)
        · exact absurd rfl h1
      | some i =>
        obtain ⟨hi, rfl⟩ := vF_some hf.2.1 hv2
        refine mGo_callP ok rfl (by omega) (m_isFormula1 (d := d) hm.1 hf.1 hf.2.1 hi) ?_
        refine mGo_run (n := 400) ok rfl ?_
        refine mGo_if ok rfl (fun h1 => ?_) (fun h1 => ?_)
        · exact absurd h1 (by decide)
        · refine mGo_run (n := 400) ok rfl ?_
          refine mGo_callR ok rfl (by omega) (m_tableOf (d := d) hf hm hj) (fun σ1 hσ1 => ?_)
          refine mGo_run (n := 400) ok rfl ?_
          refine mGo_callR ok rfl (by omega) (m_tableOf (d := d) hf (mF_fr hσ1 (Or.inl (by omega)) hm) hi) (fun σ2 hσ2 => ?_)
          refine mGo_run (n := 400) ok rfl ?_
          refine mGo_if ok rfl (fun h3 => ?_) (fun h3 => ?_)
          · refine mGo_run (n := 400) ok rfl ?_
            exact mGo_ret ok rfl trivial (⟨by simp only [if_pos h3], rfl, hσ1.trans hσ2⟩)
          · refine mGo_run (n := 400) ok rfl ?_
            exact mGo_ret ok rfl trivial (⟨by simp only [if_neg h3], rfl, hσ1.trans hσ2⟩)
/-- a formula is made, and settled -/
theorem mk_settle {σ1 σ2 : mHp} (hf : fOk F) (hm : mF σ F) {k a b : Nat} (h1 : fr 48 52 (mWI σ 48 4 0) σ1 ∧ fm [0, 4] (mWI σ 48 4 0) σ1 ∧ mF σ1 (aMm F false k a b).2.1 ∧ σ1.1 48 4 = bI (aMm F false k a b).2.2) (h2 : σ2 = if (aMm F false k a b).2.2 then mWI σ1 48 0 (nI (aN F)) else σ1) : (if (aMm F false k a b).2.2 then (-3 : Int32) else nI (aMm F false k a b).1) = oR (aMk F k a b).1 ∧ (fr 48 52 σ σ2 ∧ fm [0, 4] σ σ2 ∧ mF σ2 (aMk F k a b).2) := by
  obtain ⟨g1, g2, g3, g4⟩ := h1
  have g1 : fr 48 52 σ σ1 := ((fr.refl (σ := σ)).WI (by decide) (by decide)).trans g1
  have g2 : fm [0, 4] σ σ1 := ((fm.refl (σ := σ)).WI (fun _ => by decide)).trans g2
  have e := aMm_of hf k a b
  cases hk : (aMk F k a b).1 with
  | some j =>
    rw [hk] at e
    rw [e] at h2 g3 ⊢
    simp at h2
    subst h2
    exact ⟨rfl, g1, g2, g3⟩
  | none =>
    rw [hk] at e
    rw [e] at h2 g3 ⊢
    simp at h2
    subst h2
    rw [aMk_none hk]
    exact ⟨rfl, g1.WI (by decide) (by decide), g2.WI (fun _ => by decide), ⟨by simp [WI_at], fun j hj => by simpa [WI_at] using g3.2 j hj⟩⟩
theorem mF_WI {k : Nat} {v : Int32} (hk : k ≠ 0) (hm : mF σ F) : mF (mWI σ 48 k v) F := ⟨by rw [WI_at, if_neg (fun z => hk z.2.symm)]; exact hm.1, fun j hj => by simpa [WI_at] using hm.2 j hj⟩
theorem y_negate (hf : fOk F) (hm : mF σ F) (f : Int32) : mNR g l (d + 2) 134 [.ref 48, .int f] lk ex σ (.int (qNeg F f).1) (fun σ1 => fr 48 52 σ σ1 ∧ fm [0, 4] σ σ1 ∧ mF σ1 (qNeg F f).2) := by
  have ok : mOkP md_X9_negate := ok_at 134 (by decide) rfl
  refine mC_of (md := md_X9_negate) rfl (lt_at (by decide)) rfl ?_
  unfold qNeg
  refine mGo_run (n := 400) ok rfl ?_
  cases hv : vF F f with
  | none =>
    refine mGo_callP ok rfl (by omega) (m_isFormula0 (d := d) hm.1 hf.1 hf.2.1 (vF_none hf.2.1 hv)) ?_
    refine mGo_run (n := 400) ok rfl ?_
    refine mGo_if ok rfl (fun h => ?_) (fun h => ?_)
    · refine mGo_run (n := 400) ok rfl ?_
      exact mGo_ret ok rfl trivial (⟨rfl, rfl, fr.refl, fm.refl, hm⟩)
    · exact absurd rfl h
  | some j =>
    obtain ⟨hj, rfl⟩ := vF_some hf.2.1 hv
    refine mGo_callP ok rfl (by omega) (m_isFormula1 (d := d) hm.1 hf.1 hf.2.1 hj) ?_
    refine mGo_run (n := 400) ok rfl ?_
    refine mGo_if ok rfl (fun h => ?_) (fun h => ?_)
    · exact absurd h (by decide)
    · refine mGo_run (n := 400) ok rfl ?_
      refine mGo_side ok rfl (Or.inl rfl) ?_
      refine mGo_run (n := 400) ok rfl ?_
      refine mGo_callR ok rfl (by omega) (m_make (d := d) (fl := false) (k := 1) (b := 0) hf (mF_WI (by decide) hm) (by simp [WI_at, bI]) (by omega) hj (by have := hf.1; omega)) (fun σ1 hσ1 => ?_)
      refine mGo_run (n := 400) ok rfl ?_
      rw [hm.1]
      refine mGo_callR ok rfl (by omega) (m_settled (d := d) hσ1.2.2.2 _ _) (fun σ2 hσ2 => ?_)
      refine mGo_run (n := 400) ok rfl ?_
      have hq := mk_settle hf hm hσ1 hσ2
      exact mGo_ret ok rfl trivial (⟨by rw [hq.1], rfl, hq.2⟩)
theorem y_combine (hf : fOk F) (hm : mF σ F) (k f h2 : Int32) : mNR g l (d + 2) 135 [.ref 48, .int k, .int f, .int h2] lk ex σ (.int (qCom F k f h2).1) (fun σ1 => fr 48 52 σ σ1 ∧ fm [0, 4] σ σ1 ∧ mF σ1 (qCom F k f h2).2) := by
  have ok : mOkP md_X9_combine := ok_at 135 (by decide) rfl
  refine mC_of (md := md_X9_combine) rfl (lt_at (by decide)) rfl ?_
  unfold qCom
  refine mGo_run (n := 400) ok rfl ?_
  refine mGo_callP ok rfl (by omega) (m_isIn (d := d + 1) k 2 4) ?_
  refine mGo_run (n := 400) ok rfl ?_
  refine mGo_if ok rfl (fun h => ?_) (fun h => ?_)
  · have hk : ¬ (2 ≤ k ∧ k ≤ 4) := fun z => by rw [if_pos z] at h; exact absurd h (by decide)
    rw [if_neg hk]
    refine mGo_run (n := 400) ok rfl ?_
    exact mGo_ret ok rfl trivial (⟨rfl, rfl, fr.refl, fm.refl, hm⟩)
  · have hk : 2 ≤ k ∧ k ≤ 4 := by
      by_cases z : 2 ≤ k ∧ k ≤ 4
      · exact z
      · rw [if_neg z] at h; exact absurd rfl h
    rw [if_pos hk]
    obtain ⟨kn, hkn, rfl⟩ := nI_of2 (n := 4) (M := 4) (by decide) (fun z => absurd (Int32.lt_of_lt_of_le z (by decide : (0 : Int32) ≤ 2)) (Int32.not_lt.mpr hk.1)) hk.2
    have hk2 : 2 ≤ kn := (nI_leI (a := 2) (b := kn) (by omega) (by omega)).mp hk.1
    rw [nI_clamp (by omega)]
    refine mGo_run (n := 400) ok rfl ?_
    cases hv : vF F f with
    | none =>
      refine mGo_callP ok rfl (by omega) (m_isFormula0 (d := d) hm.1 hf.1 hf.2.1 (vF_none hf.2.1 hv)) ?_
      refine mGo_run (n := 400) ok rfl ?_
      refine mGo_if ok rfl (fun h3 => ?_) (fun h3 => ?_)
      · refine mGo_run (n := 400) ok rfl ?_
        exact mGo_ret ok rfl trivial (⟨rfl, rfl, fr.refl, fm.refl, hm⟩)
      · exact absurd rfl h3
    | some i =>
      obtain ⟨hi, rfl⟩ := vF_some hf.2.1 hv
      refine mGo_callP ok rfl (by omega) (m_isFormula1 (d := d) hm.1 hf.1 hf.2.1 hi) ?_
      refine mGo_run (n := 400) ok rfl ?_
      refine mGo_if ok rfl (fun h3 => ?_) (fun h3 => ?_)
      · exact absurd h3 (by decide)
      · refine mGo_run (n := 400) ok rfl ?_
        cases hv2 : vF F h2 with
        | none =>
          refine mGo_callP ok rfl (by omega) (m_isFormula0 (d := d) hm.1 hf.1 hf.2.1 (vF_none hf.2.1 hv2)) ?_
          refine mGo_run (n := 400) ok rfl ?_
          refine mGo_if ok rfl (fun h4 => ?_) (fun h4 => ?_)
          · refine mGo_run (n := 400) ok rfl ?_
            exact mGo_ret ok rfl trivial (⟨rfl, rfl, fr.refl, fm.refl, hm⟩)
          · exact absurd rfl h4
        | some j =>
          obtain ⟨hj, rfl⟩ := vF_some hf.2.1 hv2
          refine mGo_callP ok rfl (by omega) (m_isFormula1 (d := d) hm.1 hf.1 hf.2.1 hj) ?_
          refine mGo_run (n := 400) ok rfl ?_
          refine mGo_if ok rfl (fun h4 => ?_) (fun h4 => ?_)
          · exact absurd h4 (by decide)
          · refine mGo_run (n := 400) ok rfl ?_
            refine mGo_side ok rfl (Or.inl rfl) ?_
            refine mGo_run (n := 400) ok rfl ?_
            refine mGo_callR ok rfl (by omega) (m_make (d := d) (fl := false) (k := kn) (a := i) (b := j) hf (mF_WI (by decide) hm) (by simp [WI_at, bI]) (by omega) hi hj) (fun σ1 hσ1 => ?_)
            refine mGo_run (n := 400) ok rfl ?_
            rw [hm.1]
            refine mGo_callR ok rfl (by omega) (m_settled (d := d) hσ1.2.2.2 _ _) (fun σ2 hσ2 => ?_)
            refine mGo_run (n := 400) ok rfl ?_
            have hq := mk_settle hf hm hσ1 hσ2
            exact mGo_ret ok rfl trivial (⟨by rw [hq.1], rfl, hq.2⟩)
end T
end
section
/-! the input buffer -/
abbrev aI : Type := Nat × (Nat → Int32)
def tOk (T : aI) : Prop := T.1 ≤ 40 ∧ ∀ i, i < T.1 → 0 ≤ T.2 i ∧ T.2 i ≤ 127
def cI (σ : mHp) (T : aI) : Prop := σ.1 8 1 = nI T.1 ∧ ∀ i, i < T.1 → σ.1 9 i = T.2 i
def mI (σ : mHp) (T : aI) : Prop := σ.1 48 6 = nI T.1 ∧ ∀ i, i < T.1 → σ.1 52 i = T.2 i
def qApp (T : aI) (v c : Int32) : Int32 × aI := if (0 ≤ v ∧ v ≤ 127) ∧ (1 ≤ c ∧ c ≤ 40) then (if T.1 + c.toNatClampNeg ≤ 40 then (nI (T.1 + c.toNatClampNeg), (T.1 + c.toNatClampNeg, fun i => if T.1 ≤ i then v else T.2 i)) else (-3, T)) else (-1, T)
theorem qApp_ok {T : aI} (h : tOk T) (v c : Int32) : tOk (qApp T v c).2 := by
  unfold qApp
  by_cases h1 : (0 ≤ v ∧ v ≤ 127) ∧ (1 ≤ c ∧ c ≤ 40)
  · rw [if_pos h1]
    by_cases h2 : T.1 + c.toNatClampNeg ≤ 40
    · rw [if_pos h2]
      refine ⟨h2, fun i hi => ?_⟩
      show 0 ≤ (if T.1 ≤ i then v else T.2 i) ∧ (if T.1 ≤ i then v else T.2 i) ≤ 127
      by_cases h3 : T.1 ≤ i
      · rw [if_pos h3]; exact h1.1
      · rw [if_neg h3]; exact h.2 i (by omega)
    · rw [if_neg h2]; exact h
  · rw [if_neg h1]; exact h
section T
variable {g : mG} {l : Launch} {d : Nat} {lk : Nat} {ex : mSh} {σ : mHp} {T : aI}
theorem c_add (hT : T.1 ≤ 40) (hc : cI σ T) (v : Int32) {k : Nat} (hk : k ≤ 40) : mNR g l d 30 [.ref 8, .int v, .int (nI k)] lk ex σ (.int (if T.1 + k ≤ 40 then 1 else 0)) (fun σ1 => if T.1 + k ≤ 40 then fr 8 10 σ σ1 ∧ cI σ1 (T.1 + k, fun i => if T.1 ≤ i then v else T.2 i) else σ1 = σ) := by
  have ok : mOkP md_X3_add := ok_at 30 (by decide) rfl
  refine mC_of (md := md_X3_add) rfl (lt_at (by decide)) rfl ?_
  have e40 : (40 : Int32) - nI T.1 = nI (40 - T.1) := by
    apply Int32.toInt_inj.mp
    rw [Int32.toInt_sub, nI_toInt (show 40 - T.1 < 2 ^ 31 by omega), nI_toInt (show T.1 < 2 ^ 31 by omega), show (40 : Int32).toInt = 40 by decide]
    rw [Int.bmod_eq_of_le (by omega) (by omega)]
    omega
  refine mGo_run (n := 400) ok rfl ?_
  refine mGo_if ok rfl (fun h => ?_) (fun h => ?_)
  · exact absurd h (nI_pos (by omega))
  · refine mGo_run (n := 400) ok rfl ?_
    rw [hc.1, e40]
    refine mGo_if ok rfl (fun h1 => ?_) (fun h1 => ?_)
    · have h2 : T.1 + k ≤ 40 := by
        have := (nI_leI (a := k) (b := 40 - T.1) (by omega) (by omega)).mp h1
        omega
      rw [if_pos h2]
      refine mGo_runS 30 (n := 400) ok rfl ?_
      rw [hc.1, nI_add]
      have loop : ∀ m i : Nat, T.1 + i + m = T.1 + k → ∀ τ : mHp, fr 8 10 σ τ → τ.1 8 = σ.1 8 → (∀ x, x < T.1 + i → τ.1 9 x = if T.1 ≤ x then v else T.2 x) → mGo g l d md_X3_add (SH lk ex).length (mTot (SH lk ex)) (30, [some (.ref 8), some (.int v), some (.int (nI k)), some (.int (nI (T.1 + k))), some (.int (nI (T.1 + i)))], [], SH lk ex, τ) (fun r sp σ1 => r = some (.int 1) ∧ sp = SH lk ex ∧ (if T.1 + k ≤ 40 then fr 8 10 σ σ1 ∧ cI σ1 (T.1 + k, fun i => if T.1 ≤ i then v else T.2 i) else σ1 = σ)) := by
        intro m
        induction m with
        | zero =>
          intro i hi τ ht h8 hv
          refine mGo_run (n := 400) ok rfl ?_
          refine mGo_if ok rfl (fun h3 => ?_) (fun h3 => ?_)
          · refine mGo_run (n := 400) ok rfl ?_
            refine mGo_ret ok rfl (Or.inr rfl) ⟨rfl, rfl, ?_⟩
            rw [if_pos h2]
            refine ⟨ht.WI (by decide) (by decide), ?_, fun x hx => ?_⟩
            · show (mWI τ 8 1 (nI (T.1 + k))).1 8 1 = _
              simp [WI_at]
            · show (mWI τ 8 1 (nI (T.1 + k))).1 9 x = _
              rw [WI_at, if_neg (by omega)]
              exact hv x (by have : x < T.1 + k := hx; omega)
          · exact absurd (nI_le (by omega) (by omega)) h3
        | succ m ih =>
          intro i hi τ ht h8 hv
          refine mGo_run (n := 400) ok rfl ?_
          refine mGo_if ok rfl (fun h3 => ?_) (fun h3 => ?_)
          · exact absurd h3 (nI_ge (by omega) (by omega))
          · refine mGo_run (n := 400) ok rfl ?_
            refine mGo_side ok rfl (nI_in (by omega) (by omega)) ?_
            rw [nI_clamp (by omega)]
            refine mGo_runS 30 (n := 400) ok rfl ?_
            rw [nI_1]
            refine ih (i + 1) (by omega) _ (ht.WI (by decide) (by decide)) ?_ (fun x hx => ?_)
            · rw [← h8]; rfl
            · rw [WI_at]
              by_cases e : x = T.1 + i
              · rw [if_pos ⟨rfl, e⟩, if_pos (by omega)]
              · rw [if_neg (fun z => e z.2)]
                exact hv x (by omega)
      exact loop k 0 (by omega) σ fr.refl rfl (fun x hx => by rw [if_neg (by omega)]; exact hc.2 x (by omega))
    · have h2 : ¬ T.1 + k ≤ 40 := fun z => h1 (nI_le (by omega) (by omega))
      rw [if_neg h2]
      refine mGo_run (n := 400) ok rfl ?_
      exact mGo_ret ok rfl (Or.inl rfl) (⟨rfl, rfl, by show (if T.1 + k ≤ 40 then _ else σ = σ); rw [if_neg h2]⟩)
theorem x_append (hT : T.1 ≤ 40) (hc : cI σ T) (v c : Int32) : mNR g l (d + 1) 78 [.ref 0, .int v, .int c] lk ex σ (.int (qApp T v c).1) (fun σ1 => fr 8 10 σ σ1 ∧ cI σ1 (qApp T v c).2) := by
  have ok : mOkP md_X8_append := ok_at 78 (by decide) rfl
  refine mC_of (md := md_X8_append) rfl (lt_at (by decide)) rfl ?_
  unfold qApp
  have bad : ¬ ((0 ≤ v ∧ v ≤ 127) ∧ (1 ≤ c ∧ c ≤ 40)) → mGo g l (d + 1) md_X8_append (SH lk ex).length (mTot (SH lk ex)) (21, [some (.ref 0), some (.int v), some (.int c)], [], SH lk ex, σ) (fun r sp σ1 => r = some (.int (if (0 ≤ v ∧ v ≤ 127) ∧ (1 ≤ c ∧ c ≤ 40) then (if T.1 + c.toNatClampNeg ≤ 40 then (nI (T.1 + c.toNatClampNeg), (T.1 + c.toNatClampNeg, fun i => if T.1 ≤ i then v else T.2 i)) else (-3, T)) else (-1, T)).1) ∧ sp = SH lk ex ∧ (fr 8 10 σ σ1 ∧ cI σ1 (if (0 ≤ v ∧ v ≤ 127) ∧ (1 ≤ c ∧ c ≤ 40) then (if T.1 + c.toNatClampNeg ≤ 40 then (nI (T.1 + c.toNatClampNeg), (T.1 + c.toNatClampNeg, fun i => if T.1 ≤ i then v else T.2 i)) else ((-3 : Int32), T)) else (-1, T)).2)) := by
    intro hb
    rw [if_neg hb]
    refine mGo_run (n := 400) ok rfl ?_
    exact mGo_ret ok rfl trivial (⟨rfl, rfl, fr.refl, hc⟩)
  refine mGo_run (n := 400) ok rfl ?_
  refine mGo_if ok rfl (fun h => ?_) (fun h => ?_)
  · exact bad (fun z => absurd h (Int32.not_lt.mpr z.1.1))
  · refine mGo_run (n := 400) ok rfl ?_
    refine mGo_if ok rfl (fun h1 => ?_) (fun h1 => ?_)
    · exact bad (fun z => absurd h1 (Int32.not_lt.mpr z.1.2))
    · refine mGo_run (n := 400) ok rfl ?_
      refine mGo_if ok rfl (fun h2 => ?_) (fun h2 => ?_)
      · exact bad (fun z => absurd h2 (Int32.not_lt.mpr z.2.1))
      · refine mGo_run (n := 400) ok rfl ?_
        refine mGo_if ok rfl (fun h3 => ?_) (fun h3 => ?_)
        · have hg : (0 ≤ v ∧ v ≤ 127) ∧ (1 ≤ c ∧ c ≤ 40) := ⟨⟨Int32.not_lt.mp h, Int32.not_lt.mp h1⟩, Int32.not_lt.mp h2, h3⟩
          rw [if_pos hg]
          obtain ⟨k, hk, rfl⟩ := nI_of2 (n := 40) (M := 40) (by decide) (fun z => absurd (Int32.lt_of_lt_of_le z (by decide : (0 : Int32) ≤ 1)) h2) h3
          rw [nI_clamp (by omega)]
          refine mGo_run (n := 400) ok rfl ?_
          refine mGo_callR ok rfl (by omega) (c_add (d := d) hT hc v hk) (fun σ1 hσ1 => ?_)
          refine mGo_run (n := 400) ok rfl ?_
          by_cases hr : T.1 + k ≤ 40
          · rw [if_pos hr] at hσ1
            rw [if_pos hr, if_pos hr]
            refine mGo_if ok rfl (fun h4 => ?_) (fun h4 => ?_)
            · exact absurd h4 (by decide)
            · refine mGo_run (n := 400) ok rfl ?_
              rw [hσ1.2.1]
              exact mGo_ret ok rfl trivial (⟨rfl, rfl, hσ1⟩)
          · rw [if_neg hr] at hσ1
            subst hσ1
            rw [if_neg hr, if_neg hr]
            refine mGo_if ok rfl (fun h4 => ?_) (fun h4 => ?_)
            · refine mGo_run (n := 400) ok rfl ?_
              exact mGo_ret ok rfl trivial (⟨rfl, rfl, fr.refl, hc⟩)
            · exact absurd rfl h4
        · exact bad (fun z => h3 z.2.2)
theorem x_clearInput (hc : cI σ T) : mNR g l d 79 [.ref 0] lk ex σ (.int (nI T.1)) (fun σ1 => fr 8 10 σ σ1 ∧ cI σ1 (0, T.2)) := by
  have ok : mOkP md_X8_clearInput := ok_at 79 (by decide) rfl
  refine mC_of (md := md_X8_clearInput) rfl (lt_at (by decide)) rfl ?_
  refine mGo_run (n := 400) ok rfl ?_
  rw [hc.1]
  exact mGo_ret ok rfl trivial (⟨rfl, rfl, fr.refl.WI (by decide) (by decide), by simp [WI_at]; rfl, fun i hi => absurd hi (Nat.not_lt_zero i)⟩)
theorem y_append (hT : T.1 ≤ 40) (hm : mI σ T) (v c : Int32) : mNR g l (d + 1) 124 [.ref 48, .int v, .int c] lk ex σ (.int (qApp T v c).1) (fun σ1 => (∀ i, i ≠ 48 → i ≠ 52 → σ1.1 i = σ.1 i) ∧ σ1.2 = σ.2 ∧ fm [6] σ σ1 ∧ mI σ1 (qApp T v c).2) := by
  have ok : mOkP md_X9_append := ok_at 124 (by decide) rfl
  refine mC_of (md := md_X9_append) rfl (lt_at (by decide)) rfl ?_
  unfold qApp
  have bad : ¬ ((0 ≤ v ∧ v ≤ 127) ∧ (1 ≤ c ∧ c ≤ 40)) → mGo g l (d + 1) md_X9_append (SH lk ex).length (mTot (SH lk ex)) (20, [some (.ref 48), some (.int v), some (.int c), none], [], SH lk ex, σ) (fun r sp σ1 => r = some (.int (if (0 ≤ v ∧ v ≤ 127) ∧ (1 ≤ c ∧ c ≤ 40) then (if T.1 + c.toNatClampNeg ≤ 40 then (nI (T.1 + c.toNatClampNeg), (T.1 + c.toNatClampNeg, fun i => if T.1 ≤ i then v else T.2 i)) else (-3, T)) else (-1, T)).1) ∧ sp = SH lk ex ∧ ((∀ i, i ≠ 48 → i ≠ 52 → σ1.1 i = σ.1 i) ∧ σ1.2 = σ.2 ∧ fm [6] σ σ1 ∧ mI σ1 (if (0 ≤ v ∧ v ≤ 127) ∧ (1 ≤ c ∧ c ≤ 40) then (if T.1 + c.toNatClampNeg ≤ 40 then (nI (T.1 + c.toNatClampNeg), (T.1 + c.toNatClampNeg, fun i => if T.1 ≤ i then v else T.2 i)) else ((-3 : Int32), T)) else (-1, T)).2)) := by
    intro hb
    rw [if_neg hb]
    refine mGo_run (n := 400) ok rfl ?_
    exact mGo_ret ok rfl trivial (⟨rfl, rfl, fun _ _ _ => rfl, rfl, fm.refl, hm⟩)
  refine mGo_run (n := 400) ok rfl ?_
  refine mGo_callP ok rfl (by omega) (m_isIn (d := d) v 0 127) ?_
  refine mGo_run (n := 400) ok rfl ?_
  refine mGo_if ok rfl (fun h => ?_) (fun h => ?_)
  · refine bad (fun z => ?_)
    rw [if_pos z.1] at h; exact absurd h (by decide)
  · have hv : 0 ≤ v ∧ v ≤ 127 := by
      by_cases z : 0 ≤ v ∧ v ≤ 127
      · exact z
      · rw [if_neg z] at h; exact absurd rfl h
    refine mGo_run (n := 400) ok rfl ?_
    refine mGo_callP ok rfl (by omega) (m_isIn (d := d) c 1 40) ?_
    refine mGo_run (n := 400) ok rfl ?_
    refine mGo_if ok rfl (fun h1 => ?_) (fun h1 => ?_)
    · refine bad (fun z => ?_)
      rw [if_pos z.2] at h1; exact absurd h1 (by decide)
    · have hcc : 1 ≤ c ∧ c ≤ 40 := by
        by_cases z : 1 ≤ c ∧ c ≤ 40
        · exact z
        · rw [if_neg z] at h1; exact absurd rfl h1
      rw [if_pos ⟨hv, hcc⟩]
      obtain ⟨k, hk, rfl⟩ := nI_of2 (n := 40) (M := 40) (by decide) (fun z => absurd (Int32.lt_of_lt_of_le z (by decide : (0 : Int32) ≤ 1)) (Int32.not_lt.mpr hcc.1)) hcc.2
      rw [nI_clamp (by omega)]
      refine mGo_run (n := 400) ok rfl ?_
      rw [hm.1, nI_add]
      refine mGo_if ok rfl (fun h2 => ?_) (fun h2 => ?_)
      · have hr : T.1 + k ≤ 40 := (nI_leI (a := T.1 + k) (b := 40) (by omega) (by omega)).mp h2
        rw [if_pos hr]
        refine mGo_runS 38 (n := 400) ok rfl ?_
        have loop : ∀ m i : Nat, i + m = k → ∀ τ : mHp, (∀ x, x ≠ 48 → x ≠ 52 → τ.1 x = σ.1 x) → τ.2 = σ.2 → fm [6] σ τ → mI τ (T.1 + i, fun x => if T.1 ≤ x then v else T.2 x) → mGo g l (d + 1) md_X9_append (SH lk ex).length (mTot (SH lk ex)) (38, [some (.ref 48), some (.int v), some (.int (nI k)), some (.int (nI i))], [], SH lk ex, τ) (fun r sp σ1 => r = some (.int (nI (T.1 + k))) ∧ sp = SH lk ex ∧ ((∀ i, i ≠ 48 → i ≠ 52 → σ1.1 i = σ.1 i) ∧ σ1.2 = σ.2 ∧ fm [6] σ σ1 ∧ mI σ1 (T.1 + k, fun i => if T.1 ≤ i then v else T.2 i))) := by
          intro m
          induction m with
          | zero =>
            intro i hi τ t1 t2 t3 t4
            have : i = k := by omega
            subst this
            refine mGo_run (n := 400) ok rfl ?_
            refine mGo_if ok rfl (fun h3 => ?_) (fun h3 => ?_)
            · refine mGo_run (n := 400) ok rfl ?_
              exact mGo_ret ok rfl trivial (⟨by rw [t4.1], rfl, t1, t2, t3, t4⟩)
            · exact absurd (nI_le (Nat.le_refl _) (by omega)) h3
          | succ m ih =>
            intro i hi τ t1 t2 t3 t4
            refine mGo_run (n := 400) ok rfl ?_
            refine mGo_if ok rfl (fun h3 => ?_) (fun h3 => ?_)
            · exact absurd h3 (nI_ge (by omega) (by omega))
            · refine mGo_run (n := 400) ok rfl ?_
              rw [t4.1]
              refine mGo_side ok rfl (nI_in (by show T.1 + i < 40; omega) (by omega)) ?_
              rw [nI_clamp (by show T.1 + i < 2 ^ 31; omega)]
              refine mGo_runS 38 (n := 400) ok rfl ?_
              rw [show (mWI τ 52 (T.1 + i) v).1 48 6 = nI (T.1 + i) from t4.1, nI_1, nI_1]
              refine ih (i + 1) (by omega) _ ?_ t2 ?_ ⟨by simp [WI_at]; rfl, fun x hx => ?_⟩
              · intro x h1 h2
                rw [← t1 x h1 h2]
                funext y
                rw [WI_at, WI_at, if_neg (by omega), if_neg (by omega)]
              · exact (t3.WI (fun z => absurd z (by decide))).WI (fun _ => by decide)
              · have hx : x < T.1 + (i + 1) := hx
                rw [WI_at, if_neg (by omega), WI_at]
                by_cases e : x = T.1 + i
                · rw [if_pos ⟨rfl, e⟩]
                  show v = if T.1 ≤ x then v else T.2 x
                  rw [if_pos (by omega)]
                · rw [if_neg (fun z => e z.2)]
                  exact t4.2 x (by show x < T.1 + i; omega)
        exact loop k 0 (by omega) σ (fun _ _ _ => rfl) rfl fm.refl ⟨hm.1, fun x hx => by
          show σ.1 52 x = if T.1 ≤ x then v else T.2 x
          have hx : x < T.1 + 0 := hx
          rw [if_neg (by omega)]
          exact hm.2 x (by omega)⟩
      · have hr : ¬ T.1 + k ≤ 40 := fun z => h2 (nI_le (a := T.1 + k) (b := 40) z (by omega))
        rw [if_neg hr]
        refine mGo_run (n := 400) ok rfl ?_
        exact mGo_ret ok rfl trivial (⟨rfl, rfl, fun _ _ _ => rfl, rfl, fm.refl, hm⟩)
theorem y_clearInput (hm : mI σ T) : mNR g l d 125 [.ref 48] lk ex σ (.int (nI T.1)) (fun σ1 => σ1 = mWI σ 48 6 0) := by
  have ok : mOkP md_X9_clearInput := ok_at 125 (by decide) rfl
  refine mC_of (md := md_X9_clearInput) rfl (lt_at (by decide)) rfl ?_
  refine mGo_run (n := 400) ok rfl ?_
  rw [hm.1]
  exact mGo_ret ok rfl trivial (⟨rfl, rfl, rfl⟩)
end T
end
section
/-! sets of formulas as longs -/
def tb (x : Int64) (j : Nat) : Bool := x.toBitVec.getLsbD j
theorem tb_ext {x y : Int64} (h : ∀ j, j < 64 → tb x j = tb y j) : x = y := by
  apply Int64.toBitVec_inj.mp
  apply BitVec.eq_of_getLsbD_eq
  intro i hi
  exact h i hi
theorem tb_or (x y : Int64) (j : Nat) : tb (x ||| y) j = (tb x j || tb y j) := by simp [tb]
theorem tb_and (x y : Int64) (j : Nat) : tb (x &&& y) j = (tb x j && tb y j) := by simp [tb]
theorem tb_zero (j : Nat) : tb 0 j = false := by simp [tb]
theorem bit_bv : ∀ i, i < 64 → (bit i).toBitVec = BitVec.twoPow 64 i := by decide +kernel
theorem tb_bit {i : Nat} (hi : i < 64) (j : Nat) : tb (bit i) j = decide (i = j) := by
  simp only [tb, bit_bv i hi, BitVec.getLsbD_twoPow]
  by_cases h : i = j
  · subst h; simp [hi]
  · simp [h]
theorem lg0 {x y : Int64} : lg_cmp x y = 0 ↔ x = y := by
  unfold lg_cmp
  by_cases h : x > y
  · rw [if_pos h]
    constructor
    · intro z; exact absurd z (by decide)
    · intro z; subst z; exact absurd h Int64.lt_irrefl
  · rw [if_neg h]
    by_cases e : x = y
    · rw [if_pos e]; exact ⟨fun _ => e, fun _ => rfl⟩
    · rw [if_neg e]
      constructor
      · intro z; exact absurd z (by decide)
      · intro z; exact absurd z e
/-- a set meets one bit -/
theorem and_bit {x : Int64} {i : Nat} (hi : i < 64) : x &&& bit i = 0 ↔ tb x i = false := by
  constructor
  · intro h
    have := congrArg (fun z => tb z i) h
    simp only [tb_and, tb_bit hi, tb_zero, decide_true, Bool.and_true] at this
    exact this
  · intro h
    apply tb_ext
    intro j hj
    rw [tb_and, tb_bit hi, tb_zero]
    by_cases e : i = j
    · subst e; simp [h]
    · simp [e]
theorem and_one {x : Int64} : x &&& 1 = 1 ↔ tb x 0 = true := by
  have e1 : ∀ j, j < 64 → tb 1 j = decide (0 = j) := fun j hj => by
    have := tb_bit (i := 0) (by decide) j
    rw [show bit 0 = 1 by decide] at this
    exact this
  constructor
  · intro h
    have := congrArg (fun z => tb z 0) h
    simp only [tb_and, e1 0 (by decide), decide_true, Bool.and_true] at this
    exact this
  · intro h
    apply tb_ext
    intro j hj
    rw [tb_and, e1 j hj]
    by_cases e : 0 = j
    · subst e; simp [h]
    · simp [e]
theorem and_one0 {x : Int64} : x &&& 1 = 0 ↔ tb x 0 = false := by
  have := and_bit (x := x) (i := 0) (by decide)
  rw [show bit 0 = 1 by decide] at this
  exact this
/-- the amount of a shift -/
theorem sh_am : ∀ i, i < 64 → ((nI i).toInt64 &&& 63).toBitVec.smod 64 = BitVec.ofNat 64 i := by decide +kernel
theorem tb_shr {x : Int64} {i : Nat} (hi : i < 64) : tb (x >>> ((nI i).toInt64 &&& 63)) 0 = tb x i := by
  simp only [tb]
  rw [Int64.toBitVec_shiftRight, sh_am i hi, BitVec.sshiftRight_eq', BitVec.getLsbD_sshiftRight]
  simp [BitVec.toNat_ofNat, Nat.mod_eq_of_lt (show i < 18446744073709551616 by omega), hi]
/-- the test that the reference makes -/
theorem shr_one {x : Int64} {i : Nat} (hi : i < 64) : (x >>> ((nI i).toInt64 &&& 63)) &&& 1 = 1 ↔ tb x i = true := by
  rw [and_one, tb_shr hi]
/-- one place to the right, zeros come in -/
def sr1 (x : Int64) : Int64 := (x.toUInt64 >>> ((1 : Int32).toInt64.toUInt64 &&& Int64.toUInt64 63)).toInt64
theorem tb_sr1 (x : Int64) (j : Nat) : tb (sr1 x) j = tb x (j + 1) := by
  have e : ((1 : Int32).toInt64.toUInt64 &&& Int64.toUInt64 63) = 1 := by decide
  simp only [tb, sr1, e]
  show (x.toUInt64 >>> (1 : UInt64)).toBitVec.getLsbD j = _
  rw [UInt64.toBitVec_shiftRight]
  simp [Nat.add_comm]
/-- shifted k times -/
def srN (x : Int64) : Nat → Int64
  | 0 => x
  | k + 1 => sr1 (srN x k)
theorem tb_srN (x : Int64) : ∀ (k j : Nat), tb (srN x k) j = tb x (j + k) := by
  intro k
  induction k with
  | zero => intro j; rfl
  | succ k ih => intro j; rw [srN, tb_sr1, ih]; congr 1; omega
theorem srN_zero {x : Int64} {k : Nat} (h : srN x k = 0) : ∀ j, k ≤ j → tb x j = false := by
  intro j hj
  have := tb_srN x k (j - k)
  rw [h, tb_zero, show j - k + k = j by omega] at this
  exact this.symm
end
section
/-! positions, moves, replies; the class Board -/
def canC (c : Int64) (f : Nat) : Bool := decide (4 ≤ f) || tb c f
/-- claims of open defences: m formulas from k on -/
def clM (c o : Int64) : Nat → Nat → List (Nat × Nat)
  | _, 0 => []
  | k, m + 1 => (if tb o k = true ∧ canC c k = true then [(0, k)] else []) ++ clM c o (k + 1) m
def atK (F : aF) (c : Int64) (k : Nat) : List (Nat × Nat) := if aK F k = 2 then [(2, k), (3, k)] else if aK F k = 3 ∨ canC c (aA F k) = true then [(1, k)] else []
def atM (F : aF) (c : Int64) : Nat → Nat → List (Nat × Nat)
  | _, 0 => []
  | k, m + 1 => (if tb c k = true then atK F c k else []) ++ atM F c (k + 1) m
/-- the moves of a position, in their order: type and formula -/
def mvs (F : aF) (c o : Int64) : List (Nat × Nat) := clM c o 0 (aN F) ++ atM F c 4 (aN F - 4)
theorem clM_len (c o : Int64) : ∀ m k, (clM c o k m).length ≤ m := by
  intro m
  induction m with
  | zero => intro k; simp [clM]
  | succ m ih =>
    intro k
    simp only [clM, List.length_append]
    have := ih (k + 1)
    split <;> simp <;> omega
theorem atK_len (F : aF) (c : Int64) (k : Nat) : (atK F c k).length ≤ 2 := by
  unfold atK
  split
  · simp
  · split <;> simp
theorem atM_len (F : aF) (c : Int64) : ∀ m k, (atM F c k m).length ≤ 2 * m := by
  intro m
  induction m with
  | zero => intro k; simp [atM]
  | succ m ih =>
    intro k
    simp only [atM, List.length_append]
    have := ih (k + 1)
    have := atK_len F c k
    split
    · omega
    · simp; omega
theorem mvs_len {F : aF} (hf : fOk F) (c o : Int64) : (mvs F c o).length ≤ 112 := by
  have := clM_len c o (aN F) 0
  have := atM_len F c (aN F - 4) 4
  have := hf.1
  have := hf.2.1
  simp only [mvs, List.length_append]
  omega
theorem clM_nil {c o : Int64} : ∀ m k, (∀ j, k ≤ j → tb o j = false) → clM c o k m = [] := by
  intro m
  induction m with
  | zero => intro k h; rfl
  | succ m ih =>
    intro k h
    simp only [clM]
    rw [ih (k + 1) (fun j hj => h j (by omega)), if_neg (by rw [h k (Nat.le_refl _)]; simp)]
    rfl
theorem atM_nil {F : aF} {c : Int64} : ∀ m k, (∀ j, k ≤ j → tb c j = false) → atM F c k m = [] := by
  intro m
  induction m with
  | zero => intro k h; rfl
  | succ m ih =>
    intro k h
    simp only [atM]
    rw [ih (k + 1) (fun j hj => h j (by omega)), if_neg (by rw [h k (Nat.le_refl _)]; simp)]
    rfl
theorem clM_mem {c o : Int64} : ∀ {m k : Nat} {q : Nat × Nat}, q ∈ clM c o k m → q.1 = 0 ∧ k ≤ q.2 ∧ q.2 < k + m ∧ tb o q.2 = true ∧ canC c q.2 = true := by
  intro m
  induction m with
  | zero => intro k q h; simp [clM] at h
  | succ m ih =>
    intro k q h
    simp only [clM, List.mem_append] at h
    rcases h with h | h
    · split at h
      · rename_i hh
        simp at h; subst h
        exact ⟨rfl, Nat.le_refl _, by omega, hh.1, hh.2⟩
      · simp at h
    · obtain ⟨h1, h2, h3, h4, h5⟩ := ih h
      exact ⟨h1, by omega, by omega, h4, h5⟩
theorem atM_mem {F : aF} {c : Int64} : ∀ {m k : Nat} {q : Nat × Nat}, q ∈ atM F c k m → (k ≤ q.2 ∧ q.2 < k + m ∧ tb c q.2 = true) ∧ ((aK F q.2 = 2 ∧ (q.1 = 2 ∨ q.1 = 3)) ∨ (aK F q.2 ≠ 2 ∧ q.1 = 1 ∧ (aK F q.2 = 3 ∨ canC c (aA F q.2) = true))) := by
  intro m
  induction m with
  | zero => intro k q h; simp [atM] at h
  | succ m ih =>
    intro k q h
    simp only [atM, List.mem_append] at h
    rcases h with h | h
    · split at h
      · rename_i hh
        unfold atK at h
        split at h
        · rename_i h2
          simp at h
          rcases h with rfl | rfl
          · exact ⟨⟨Nat.le_refl _, by omega, hh⟩, Or.inl ⟨h2, Or.inl rfl⟩⟩
          · exact ⟨⟨Nat.le_refl _, by omega, hh⟩, Or.inl ⟨h2, Or.inr rfl⟩⟩
        · rename_i h2
          split at h
          · rename_i h3
            simp at h; subst h
            exact ⟨⟨Nat.le_refl _, by omega, hh⟩, Or.inr ⟨h2, rfl, h3⟩⟩
          · simp at h
      · simp at h
    · obtain ⟨⟨h1, h2, h3⟩, h4⟩ := ih h
      exact ⟨⟨by omega, by omega, h3⟩, h4⟩
/-- replies to a move -/
def rpN (F : aF) (q : Nat × Nat) : Nat := if q.1 = 0 then atk (aK F q.2) else if aK F q.2 = 1 then atk (aK F (aA F q.2)) else if aK F q.2 = 2 then 1 else if aK F q.2 = 3 then 2 else atk (aK F (aA F q.2)) + 1
/-- an attack on a formula that the proponent has claimed -/
def atP2 (F : aF) (man : Nat) (c o : Int64) (f r : Nat) : Int64 × Int64 :=
  let cl : Int64 := if aK F f = 1 ∨ aK F f = 4 then bit (aA F f) else 0
  let df : Int64 := if aK F f = 2 then (if r = 0 then bit (aA F f) else bit (aB F f)) else if aK F f = 3 then bit (aA F f) ||| bit (aB F f) else if aK F f = 4 then bit (aB F f) else 0
  (c ||| cl, if man = 1 then o ||| df else df)
/-- the position after a move and a reply -/
def rpP (F : aF) (man : Nat) (c o : Int64) (q : Nat × Nat) (r : Nat) : Int64 × Int64 :=
  if q.1 = 0 then atP2 F man c o q.2 r
  else if q.1 = 2 then (c ||| bit (aA F q.2), o)
  else if q.1 = 3 then (c ||| bit (aB F q.2), o)
  else if aK F q.2 = 3 then (c ||| bit (if r = 0 then aA F q.2 else aB F q.2), o)
  else if r < atk (aK F (aA F q.2)) then atP2 F man c o (aA F q.2) r
  else (c ||| bit (aB F q.2), o)
/-- the moves that a board holds -/
def bM (σ : mHp) (b : Nat) (ms : List (Nat × Nat)) : Prop := σ.1 b 3 = nI ms.length ∧ ∀ (i : Nat) (q : Nat × Nat), ms[i]? = some q → σ.1 (b + 1) i = nI q.1 ∧ σ.1 (b + 2) i = nI q.2
/-- only a board's list of moves has changed -/
def frB (b : Nat) (σ σ1 : mHp) : Prop := fr b (b + 3) σ σ1 ∧ (∀ k, k ≠ 3 → σ1.1 b k = σ.1 b k) ∧ σ1.2.1 b = σ.2.1 b
theorem frB.refl {b : Nat} {σ : mHp} : frB b σ σ := ⟨fr.refl, fun _ _ => rfl, rfl⟩
theorem frB.trans {b : Nat} {σ σ1 σ2 : mHp} (h1 : frB b σ σ1) (h2 : frB b σ1 σ2) : frB b σ σ2 := ⟨h1.1.trans h2.1, fun k hk => (h2.2.1 k hk).trans (h1.2.1 k hk), h2.2.2.trans h1.2.2⟩
theorem cF_fr {lo hi : Nat} {σ σ1 : mHp} {F : aF} (h : fr lo hi σ σ1) (hlo : 8 ≤ lo ∨ hi ≤ 1) (hm : cF σ F) : cF σ1 F := by
  have e : ∀ i, 1 ≤ i → i < 8 → σ1.1 i = σ.1 i := fun i h1 h2 => (h i (by omega)).1
  rw [cF, e 1 (by omega) (by omega), e 2 (by omega) (by omega), e 3 (by omega) (by omega), e 4 (by omega) (by omega)]
  exact hm
section T
variable {g : mG} {l : Launch} {d : Nat} {lk : Nat} {ex : mSh} {σ : mHp} {F : aF}
theorem c_bitOf {j : Nat} (hj : j < 2 ^ 31) : mNP g l d 10 [.int (nI j)] lk ex σ (.long (bit j)) := by
  have ok : mOkP md_X0_bitOf := ok_at 10 (by decide) rfl
  refine mC_of (md := md_X0_bitOf) rfl (lt_at (by decide)) rfl ?_
  refine mGo_run (n := 400) ok rfl ?_
  refine mGo_if ok rfl (fun h => ?_) (fun h => ?_)
  · exact absurd h (nI_pos hj)
  · refine mGo_run (n := 400) ok rfl ?_
    exact mGo_ret ok rfl trivial (⟨rfl, rfl, rfl⟩)
theorem c_bitOf0 : mNP g l d 10 [.int (-1)] lk ex σ (.long 0) := by
  have ok : mOkP md_X0_bitOf := ok_at 10 (by decide) rfl
  refine mC_of (md := md_X0_bitOf) rfl (lt_at (by decide)) rfl ?_
  refine mGo_run (n := 400) ok rfl ?_
  refine mGo_if ok rfl (fun h => ?_) (fun h => ?_)
  · refine mGo_run (n := 400) ok rfl ?_
    exact mGo_ret ok rfl trivial (⟨rfl, rfl, rfl⟩)
  · exact absurd (by decide) h
theorem c_addMove18 {ms : List (Nat × Nat)} (hb : bM σ 18 ms) (hl : ms.length < 120) (ty f : Nat) : mNV g l d 3 [.ref 18, .int (nI ty), .int (nI f)] lk ex σ (fun σ1 => frB 18 σ σ1 ∧ bM σ1 18 (ms ++ [(ty, f)])) := by
  have ok : mOkP md_X0_addMove := ok_at 3 (by decide) rfl
  refine mC_of (md := md_X0_addMove) rfl (lt_at (by decide)) rfl ?_
  have cl : (nI ms.length).toNatClampNeg = ms.length := nI_clamp (by omega)
  refine mGo_run (n := 400) ok rfl ?_
  rw [hb.1]
  refine mGo_if ok rfl (fun h => ?_) (fun h => ?_)
  · exact absurd h (nI_ge (a := ms.length) (b := 120) hl (by omega))
  · refine mGo_run (n := 400) ok rfl ?_
    rw [hb.1]
    refine mGo_side ok rfl (nI_in (by omega) (by omega)) ?_
    rw [cl]
    refine mGo_run (n := 400) ok rfl ?_
    rw [show (mWI σ 19 ms.length (nI ty)).1 18 3 = nI ms.length from hb.1]
    refine mGo_side ok rfl (nI_in (by omega) (by omega)) ?_
    rw [cl]
    refine mGo_run (n := 400) ok rfl ?_
    rw [show (mWI (mWI σ 19 ms.length (nI ty)) 20 ms.length (nI f)).1 18 3 = nI ms.length from hb.1, nI_1]
    refine mGo_ret ok rfl trivial ⟨rfl, rfl, ⟨((fr.refl.WI (by decide) (by decide)).WI (by decide) (by decide)).WI (by decide) (by decide), fun k hk => ?_, rfl⟩, ?_, fun i q hq => ?_⟩
    · rw [WI_at, if_neg (fun z => hk z.2), WI_at, if_neg (by omega), WI_at, if_neg (by omega)]
    · simp [WI_at]
    · rcases Nat.lt_or_ge i ms.length with hi | hi
      · rw [List.getElem?_append_left hi] at hq
        obtain ⟨h1, h2⟩ := hb.2 i q hq
        have ne : i ≠ ms.length := by omega
        constructor
        · simpa [WI_at, ne] using h1
        · simpa [WI_at, ne] using h2
      · have hi2 : i = ms.length := by
          have := (List.getElem?_eq_some_iff.mp hq).1
          simp at this
          omega
        subst hi2
        simp at hq
        subst hq
        constructor <;> simp [WI_at]
theorem c_canClaim18 {c : Int64} (hc : σ.2.1 18 5 = c) {f : Nat} (hf : f < 40) : mNP g l (d + 1) 4 [.ref 18, .int (nI f)] lk ex σ (.int (if canC c f = true then 1 else 0)) := by
  have ok : mOkP md_X0_canClaim := ok_at 4 (by decide) rfl
  refine mC_of (md := md_X0_canClaim) rfl (lt_at (by decide)) rfl ?_
  refine mGo_run (n := 400) ok rfl ?_
  refine mGo_if ok rfl (fun h => ?_) (fun h => ?_)
  · have h4 : 4 ≤ f := (nI_leI (a := 4) (b := f) (by omega) (by omega)).mp h
    refine mGo_run (n := 400) ok rfl ?_
    exact mGo_ret ok rfl (Or.inr rfl) (⟨by simp [canC, h4], rfl, rfl⟩)
  · have h4 : ¬ 4 ≤ f := fun z => h ((nI_leI (a := 4) (b := f) (by omega) (by omega)).mpr z)
    refine mGo_run (n := 400) ok rfl ?_
    refine mGo_callP ok rfl (by omega) (c_bitOf (d := d) (j := f) (by omega)) ?_
    refine mGo_run (n := 400) ok rfl ?_
    rw [hc]
    refine mGo_if ok rfl (fun h1 => ?_) (fun h1 => ?_)
    · have e : tb c f = false := (and_bit (by omega)).mp (lg0.mp h1)
      refine mGo_run (n := 400) ok rfl ?_
      exact mGo_ret ok rfl (Or.inl rfl) (⟨by simp [canC, h4, e], rfl, rfl⟩)
    · have e : tb c f = true := by
        cases z : tb c f with
        | true => rfl
        | false => exact absurd (lg0.mpr ((and_bit (by omega)).mpr z)) h1
      refine mGo_run (n := 400) ok rfl ?_
      exact mGo_ret ok rfl (Or.inr rfl) (⟨by simp [canC, e], rfl, rfl⟩)
theorem c_addAttacks18 (hf : fOk F) (hc : cF σ F) {ms : List (Nat × Nat)} (hb : bM σ 18 ms) {c : Int64} (hcl : σ.2.1 18 5 = c) (hl : ms.length + 2 ≤ 120) {f : Nat} (h4 : 4 ≤ f) (hfn : f < aN F) : mNV g l (d + 2) 2 [.ref 18, .int (nI f)] lk ex σ (fun σ1 => frB 18 σ σ1 ∧ bM σ1 18 (ms ++ atK F c f)) := by
  obtain ⟨w1, w2, w3, w4, w5, w6⟩ := hf.2.2 f hfn
  have hn := hf.2.1
  have k0 : aK F f ≠ 0 := fun z => by have := w1.mp z; omega
  have ok : mOkP md_X0_addAttacks := ok_at 2 (by decide) rfl
  refine mC_of (md := md_X0_addAttacks) rfl (lt_at (by decide)) rfl ?_
  refine mGo_run (n := 400) ok rfl ?_
  refine mGo_callP ok rfl (by omega) (c_kindOf (d := d) hf.2.1 hc hfn) ?_
  refine mGo_run (n := 400) ok rfl ?_
  refine mGo_if ok rfl (fun h => ?_) (fun h => ?_)
  · have k2 : aK F f = 2 := (nI_eq (a := aK F f) (b := 2) (by omega) (by omega)).mp h
    refine mGo_run (n := 400) ok rfl ?_
    refine mGo_callV ok rfl (by omega) (c_addMove18 (d := d) hb (by omega) 2 f) (fun σ1 hσ1 => ?_)
    refine mGo_run (n := 400) ok rfl ?_
    refine mGo_callV ok rfl (by omega) (c_addMove18 (d := d) hσ1.2 (by simp; omega) 3 f) (fun σ2 hσ2 => ?_)
    refine mGo_run (n := 400) ok rfl ?_
    exact mGo_ret ok rfl trivial (⟨rfl, rfl, hσ1.1.trans hσ2.1, by have := hσ2.2; rw [List.append_assoc] at this; rw [atK, if_pos k2]; exact this⟩)
  · have k2 : aK F f ≠ 2 := fun z => h (by rw [z]; rfl)
    have add : aK F f = 3 ∨ canC c (aA F f) = true → ∀ v : Value, mGo g l (d + 2) md_X0_addAttacks (SH lk ex).length (mTot (SH lk ex)) (49, [some (.ref 18), some (.int (nI f)), some v], [], SH lk ex, σ) (fun r sp σ1 => r = none ∧ sp = SH lk ex ∧ (frB 18 σ σ1 ∧ bM σ1 18 (ms ++ atK F c f))) := by
      intro hh v
      refine mGo_run (n := 400) ok rfl ?_
      refine mGo_callV ok rfl (by omega) (c_addMove18 (d := d) hb (by omega) 1 f) (fun σ1 hσ1 => ?_)
      refine mGo_run (n := 400) ok rfl ?_
      exact mGo_ret ok rfl trivial (⟨rfl, rfl, hσ1.1, by rw [atK, if_neg k2, if_pos hh]; exact hσ1.2⟩)
    refine mGo_run (n := 400) ok rfl ?_
    refine mGo_if ok rfl (fun h1 => ?_) (fun h1 => ?_)
    · have k3 : aK F f = 3 := (nI_eq (a := aK F f) (b := 3) (by omega) (by omega)).mp h1
      exact add (Or.inl k3) _
    · have k3 : aK F f ≠ 3 := fun z => h1 (by rw [z]; rfl)
      refine mGo_run (n := 400) ok rfl ?_
      refine mGo_callP ok rfl (by omega) (c_firstOf (d := d) hf.2.1 hc hfn) ?_
      refine mGo_run (n := 400) ok rfl ?_
      rw [if_neg k0]
      refine mGo_callP ok rfl (by omega) (c_canClaim18 (d := d) hcl (f := aA F f) (by have := w3 k0; omega)) ?_
      refine mGo_run (n := 400) ok rfl ?_
      refine mGo_if ok rfl (fun h2 => ?_) (fun h2 => ?_)
      · have e : ¬ canC c (aA F f) = true := fun z => by rw [if_pos z] at h2; exact absurd h2 (by decide)
        refine mGo_run (n := 400) ok rfl ?_
        exact mGo_ret ok rfl trivial (⟨rfl, rfl, frB.refl, by rw [atK, if_neg k2, if_neg (by rintro (z | z); exact k3 z; exact e z), List.append_nil]; exact hb⟩)
      · have e : canC c (aA F f) = true := by
          by_cases z : canC c (aA F f) = true
          · exact z
          · rw [if_neg z] at h2; exact absurd rfl h2
        exact add (Or.inr e) _
theorem c_addMove28 {ms : List (Nat × Nat)} (hb : bM σ 28 ms) (hl : ms.length < 120) (ty f : Nat) : mNV g l d 3 [.ref 28, .int (nI ty), .int (nI f)] lk ex σ (fun σ1 => frB 28 σ σ1 ∧ bM σ1 28 (ms ++ [(ty, f)])) := by
  have ok : mOkP md_X0_addMove := ok_at 3 (by decide) rfl
  refine mC_of (md := md_X0_addMove) rfl (lt_at (by decide)) rfl ?_
  have cl : (nI ms.length).toNatClampNeg = ms.length := nI_clamp (by omega)
  refine mGo_run (n := 400) ok rfl ?_
  rw [hb.1]
  refine mGo_if ok rfl (fun h => ?_) (fun h => ?_)
  · exact absurd h (nI_ge (a := ms.length) (b := 120) hl (by omega))
  · refine mGo_run (n := 400) ok rfl ?_
    rw [hb.1]
    refine mGo_side ok rfl (nI_in (by omega) (by omega)) ?_
    rw [cl]
    refine mGo_run (n := 400) ok rfl ?_
    rw [show (mWI σ 29 ms.length (nI ty)).1 28 3 = nI ms.length from hb.1]
    refine mGo_side ok rfl (nI_in (by omega) (by omega)) ?_
    rw [cl]
    refine mGo_run (n := 400) ok rfl ?_
    rw [show (mWI (mWI σ 29 ms.length (nI ty)) 30 ms.length (nI f)).1 28 3 = nI ms.length from hb.1, nI_1]
    refine mGo_ret ok rfl trivial ⟨rfl, rfl, ⟨((fr.refl.WI (by decide) (by decide)).WI (by decide) (by decide)).WI (by decide) (by decide), fun k hk => ?_, rfl⟩, ?_, fun i q hq => ?_⟩
    · rw [WI_at, if_neg (fun z => hk z.2), WI_at, if_neg (by omega), WI_at, if_neg (by omega)]
    · simp [WI_at]
    · rcases Nat.lt_or_ge i ms.length with hi | hi
      · rw [List.getElem?_append_left hi] at hq
        obtain ⟨h1, h2⟩ := hb.2 i q hq
        have ne : i ≠ ms.length := by omega
        constructor
        · simpa [WI_at, ne] using h1
        · simpa [WI_at, ne] using h2
      · have hi2 : i = ms.length := by
          have := (List.getElem?_eq_some_iff.mp hq).1
          simp at this
          omega
        subst hi2
        simp at hq
        subst hq
        constructor <;> simp [WI_at]
theorem c_canClaim28 {c : Int64} (hc : σ.2.1 28 5 = c) {f : Nat} (hf : f < 40) : mNP g l (d + 1) 4 [.ref 28, .int (nI f)] lk ex σ (.int (if canC c f = true then 1 else 0)) := by
  have ok : mOkP md_X0_canClaim := ok_at 4 (by decide) rfl
  refine mC_of (md := md_X0_canClaim) rfl (lt_at (by decide)) rfl ?_
  refine mGo_run (n := 400) ok rfl ?_
  refine mGo_if ok rfl (fun h => ?_) (fun h => ?_)
  · have h4 : 4 ≤ f := (nI_leI (a := 4) (b := f) (by omega) (by omega)).mp h
    refine mGo_run (n := 400) ok rfl ?_
    exact mGo_ret ok rfl (Or.inr rfl) (⟨by simp [canC, h4], rfl, rfl⟩)
  · have h4 : ¬ 4 ≤ f := fun z => h ((nI_leI (a := 4) (b := f) (by omega) (by omega)).mpr z)
    refine mGo_run (n := 400) ok rfl ?_
    refine mGo_callP ok rfl (by omega) (c_bitOf (d := d) (j := f) (by omega)) ?_
    refine mGo_run (n := 400) ok rfl ?_
    rw [hc]
    refine mGo_if ok rfl (fun h1 => ?_) (fun h1 => ?_)
    · have e : tb c f = false := (and_bit (by omega)).mp (lg0.mp h1)
      refine mGo_run (n := 400) ok rfl ?_
      exact mGo_ret ok rfl (Or.inl rfl) (⟨by simp [canC, h4, e], rfl, rfl⟩)
    · have e : tb c f = true := by
        cases z : tb c f with
        | true => rfl
        | false => exact absurd (lg0.mpr ((and_bit (by omega)).mpr z)) h1
      refine mGo_run (n := 400) ok rfl ?_
      exact mGo_ret ok rfl (Or.inr rfl) (⟨by simp [canC, e], rfl, rfl⟩)
theorem c_addAttacks28 (hf : fOk F) (hc : cF σ F) {ms : List (Nat × Nat)} (hb : bM σ 28 ms) {c : Int64} (hcl : σ.2.1 28 5 = c) (hl : ms.length + 2 ≤ 120) {f : Nat} (h4 : 4 ≤ f) (hfn : f < aN F) : mNV g l (d + 2) 2 [.ref 28, .int (nI f)] lk ex σ (fun σ1 => frB 28 σ σ1 ∧ bM σ1 28 (ms ++ atK F c f)) := by
  obtain ⟨w1, w2, w3, w4, w5, w6⟩ := hf.2.2 f hfn
  have hn := hf.2.1
  have k0 : aK F f ≠ 0 := fun z => by have := w1.mp z; omega
  have ok : mOkP md_X0_addAttacks := ok_at 2 (by decide) rfl
  refine mC_of (md := md_X0_addAttacks) rfl (lt_at (by decide)) rfl ?_
  refine mGo_run (n := 400) ok rfl ?_
  refine mGo_callP ok rfl (by omega) (c_kindOf (d := d) hf.2.1 hc hfn) ?_
  refine mGo_run (n := 400) ok rfl ?_
  refine mGo_if ok rfl (fun h => ?_) (fun h => ?_)
  · have k2 : aK F f = 2 := (nI_eq (a := aK F f) (b := 2) (by omega) (by omega)).mp h
    refine mGo_run (n := 400) ok rfl ?_
    refine mGo_callV ok rfl (by omega) (c_addMove28 (d := d) hb (by omega) 2 f) (fun σ1 hσ1 => ?_)
    refine mGo_run (n := 400) ok rfl ?_
    refine mGo_callV ok rfl (by omega) (c_addMove28 (d := d) hσ1.2 (by simp; omega) 3 f) (fun σ2 hσ2 => ?_)
    refine mGo_run (n := 400) ok rfl ?_
    exact mGo_ret ok rfl trivial (⟨rfl, rfl, hσ1.1.trans hσ2.1, by have := hσ2.2; rw [List.append_assoc] at this; rw [atK, if_pos k2]; exact this⟩)
  · have k2 : aK F f ≠ 2 := fun z => h (by rw [z]; rfl)
    have add : aK F f = 3 ∨ canC c (aA F f) = true → ∀ v : Value, mGo g l (d + 2) md_X0_addAttacks (SH lk ex).length (mTot (SH lk ex)) (49, [some (.ref 28), some (.int (nI f)), some v], [], SH lk ex, σ) (fun r sp σ1 => r = none ∧ sp = SH lk ex ∧ (frB 28 σ σ1 ∧ bM σ1 28 (ms ++ atK F c f))) := by
      intro hh v
      refine mGo_run (n := 400) ok rfl ?_
      refine mGo_callV ok rfl (by omega) (c_addMove28 (d := d) hb (by omega) 1 f) (fun σ1 hσ1 => ?_)
      refine mGo_run (n := 400) ok rfl ?_
      exact mGo_ret ok rfl trivial (⟨rfl, rfl, hσ1.1, by rw [atK, if_neg k2, if_pos hh]; exact hσ1.2⟩)
    refine mGo_run (n := 400) ok rfl ?_
    refine mGo_if ok rfl (fun h1 => ?_) (fun h1 => ?_)
    · have k3 : aK F f = 3 := (nI_eq (a := aK F f) (b := 3) (by omega) (by omega)).mp h1
      exact add (Or.inl k3) _
    · have k3 : aK F f ≠ 3 := fun z => h1 (by rw [z]; rfl)
      refine mGo_run (n := 400) ok rfl ?_
      refine mGo_callP ok rfl (by omega) (c_firstOf (d := d) hf.2.1 hc hfn) ?_
      refine mGo_run (n := 400) ok rfl ?_
      rw [if_neg k0]
      refine mGo_callP ok rfl (by omega) (c_canClaim28 (d := d) hcl (f := aA F f) (by have := w3 k0; omega)) ?_
      refine mGo_run (n := 400) ok rfl ?_
      refine mGo_if ok rfl (fun h2 => ?_) (fun h2 => ?_)
      · have e : ¬ canC c (aA F f) = true := fun z => by rw [if_pos z] at h2; exact absurd h2 (by decide)
        refine mGo_run (n := 400) ok rfl ?_
        exact mGo_ret ok rfl trivial (⟨rfl, rfl, frB.refl, by rw [atK, if_neg k2, if_neg (by rintro (z | z); exact k3 z; exact e z), List.append_nil]; exact hb⟩)
      · have e : canC c (aA F f) = true := by
          by_cases z : canC c (aA F f) = true
          · exact z
          · rw [if_neg z] at h2; exact absurd rfl h2
        exact add (Or.inr e) _
end T
end
section
/-! the class Board: a position is set up; replies -/
theorem sr4 (x : Int64) : (x.toUInt64 >>> ((4 : Int32).toInt64.toUInt64 &&& Int64.toUInt64 63)).toInt64 = srN x 4 := by
  apply tb_ext
  intro j hj
  rw [tb_srN]
  have e : ((4 : Int32).toInt64.toUInt64 &&& Int64.toUInt64 63) = 4 := by decide
  simp only [tb, e]
  show (x.toUInt64 >>> (4 : UInt64)).toBitVec.getLsbD j = _
  rw [UInt64.toBitVec_shiftRight]
  simp [Nat.add_comm]
/-- what setUp leaves: the position, its moves; the manner and the next position stay -/
def bS (σ σ1 : mHp) (b : Nat) (c o : Int64) (ms : List (Nat × Nat)) : Prop := fr b (b + 3) σ σ1 ∧ (∀ k, k ≠ 3 → σ1.1 b k = σ.1 b k) ∧ σ1.2.1 b 5 = c ∧ σ1.2.1 b 6 = o ∧ (∀ k, k ≠ 5 → k ≠ 6 → σ1.2.1 b k = σ.2.1 b k) ∧ bM σ1 b ms
section T
variable {g : mG} {l : Launch} {d : Nat} {lk : Nat} {ex : mSh} {σ : mHp} {F : aF}
set_option maxHeartbeats 1000000 in
theorem c_setUp18 (hf : fOk F) (hc : cF σ F) (c o : Int64) : mNV g l (d + 3) 1 [.ref 18, .long c, .long o] lk ex σ (fun σ1 => bS σ σ1 18 c o (mvs F c o)) := by
  have ok : mOkP md_X0_setUp := ok_at 1 (by decide) rfl
  refine mC_of (md := md_X0_setUp) rfl (lt_at (by decide)) rfl ?_
  have hn := hf.2.1
  have h4n := hf.1
  have len1 := fun m k => clM_len c o m k
  have len2 := fun m k => atM_len F c m k
  refine mGo_runS 21 (n := 400) ok rfl ?_
  have post2 : ∀ m k : Nat, k + m = aN F → 4 ≤ k → ∀ (τ : mHp) (pre : List (Nat × Nat)), frB 18 (mWI (mWL (mWL σ 18 5 c) 18 6 o) 18 3 0) τ → bM τ 18 pre → pre.length + 2 * m ≤ 112 → pre ++ atM F c k m = mvs F c o → mGo g l (d + 3) md_X0_setUp (SH lk ex).length (mTot (SH lk ex)) (85, [some (.ref 18), some (.long c), none, some (.long o), none, some (.long (srN c k)), none, some (.int (nI k))], [], SH lk ex, τ) (fun r sp σ1 => r = none ∧ sp = SH lk ex ∧ bS σ σ1 18 c o (mvs F c o)) := by
    intro m
    induction m with
    | zero =>
      intro k hk h4 τ pre ht hb hpl hp
      rw [show atM F c k 0 = [] from rfl, List.append_nil] at hp
      subst hp
      have hct := cF_fr (σ1 := τ) (lo := 18) (hi := 21) ((((fr.refl (σ := σ)).WL (by decide) (by decide)).WL (by decide) (by decide)).WI (by decide) (by decide) |>.trans ht.1) (Or.inl (by decide)) hc
      refine mGo_run (n := 400) ok rfl ?_
      rw [hct.1]
      refine mGo_if ok rfl (fun h => ?_) (fun h => ?_)
      · refine mGo_run (n := 400) ok rfl ?_
        refine mGo_ret ok rfl trivial ⟨rfl, rfl, (((fr.refl (σ := σ)).WL (by decide) (by decide)).WL (by decide) (by decide)).WI (by decide) (by decide) |>.trans ht.1, fun k hk => ?_, ?_, ?_, fun k h5 h6 => ?_, hb⟩
        · rw [ht.2.1 k hk, WI_at, if_neg (fun z => hk z.2)]; rfl
        · rw [ht.2.2]; show (mWL (mWL σ 18 5 c) 18 6 o).2.1 18 5 = c; simp [WL_at]
        · rw [ht.2.2]; show (mWL (mWL σ 18 5 c) 18 6 o).2.1 18 6 = o; simp [WL_at]
        · rw [ht.2.2]; show (mWL (mWL σ 18 5 c) 18 6 o).2.1 18 k = _; simp [WL_at, h5, h6]
      · exact absurd (nI_le (show aN F ≤ k by omega) (by omega)) h
    | succ m ih =>
      intro k hk h4 τ pre ht hb hpl hp
      have hfr := (((fr.refl (σ := σ)).WL (k := 5) (v := c) (i := 18) (lo := 18) (hi := 21) (by decide) (by decide)).WL (k := 6) (v := o) (i := 18) (by decide) (by decide)).WI (k := 3) (v := 0) (i := 18) (by decide) (by decide) |>.trans ht.1
      have hct := cF_fr hfr (Or.inl (by decide)) hc
      have hcl : τ.2.1 18 5 = c := by rw [ht.2.2]; show (mWL (mWL σ 18 5 c) 18 6 o).2.1 18 5 = c; simp [WL_at]
      have hkn : k < aN F := by omega
      refine mGo_run (n := 400) ok rfl ?_
      rw [hct.1]
      refine mGo_if ok rfl (fun h => ?_) (fun h => ?_)
      · exact absurd h (nI_ge hkn (by omega))
      · refine mGo_run (n := 400) ok rfl ?_
        refine mGo_if ok rfl (fun h1 => ?_) (fun h1 => ?_)
        · have hz := srN_zero (lg0.mp h1)
          have e : atM F c k (m + 1) = [] := atM_nil _ _ hz
          rw [e, List.append_nil] at hp
          subst hp
          refine mGo_run (n := 400) ok rfl ?_
          refine mGo_ret ok rfl trivial ⟨rfl, rfl, hfr, fun k hk => ?_, hcl, ?_, fun k h5 h6 => ?_, hb⟩
          · rw [ht.2.1 k hk, WI_at, if_neg (fun z => hk z.2)]; rfl
          · rw [ht.2.2]; show (mWL (mWL σ 18 5 c) 18 6 o).2.1 18 6 = o; simp [WL_at]
          · rw [ht.2.2]; show (mWL (mWL σ 18 5 c) 18 6 o).2.1 18 k = _; simp [WL_at, h5, h6]
        · have cont : ∀ (τ1 : mHp) (pre1 : List (Nat × Nat)), frB 18 τ τ1 → bM τ1 18 pre1 → pre1.length ≤ pre.length + 2 → pre1 ++ atM F c (k + 1) m = mvs F c o → mGo g l (d + 3) md_X0_setUp (SH lk ex).length (mTot (SH lk ex)) (119, [some (.ref 18), some (.long c), none, some (.long o), none, some (.long (srN c k)), none, some (.int (nI k))], [], SH lk ex, τ1) (fun r sp σ1 => r = none ∧ sp = SH lk ex ∧ bS σ σ1 18 c o (mvs F c o)) := by
            intro τ1 pre1 g1 g2 g3 g4
            refine mGo_runS 85 (n := 400) ok rfl ?_
            rw [nI_1]
            exact ih (k + 1) (by omega) (by omega) τ1 pre1 (ht.trans g1) g2 (by omega) g4
          refine mGo_run (n := 400) ok rfl ?_
          refine mGo_if ok rfl (fun h2 => ?_) (fun h2 => ?_)
          · have e : tb c k = false := by
              have := and_one0.mp (lg0.mp h2)
              rw [tb_srN] at this
              simpa using this
            simp only [atM, e] at hp
            exact cont τ pre frB.refl hb (by omega) (by simpa using hp)
          · have e : tb c k = true := by
              cases z : tb c k with
              | true => rfl
              | false => exact absurd (lg0.mpr (and_one0.mpr (by rw [tb_srN]; simpa using z))) h2
            simp only [atM, e, if_true] at hp
            refine mGo_run (n := 400) ok rfl ?_
            refine mGo_callV ok rfl (by omega) (c_addAttacks18 (d := d) hf hct hb hcl (by omega) h4 hkn) (fun σ1 hσ1 => ?_)
            have := atK_len F c k
            exact cont σ1 _ hσ1.1 hσ1.2 (by simp; omega) (by rw [List.append_assoc]; exact hp)
  have second : ∀ (τ : mHp) (pre : List (Nat × Nat)) (L5 L7 : Option Value), frB 18 (mWI (mWL (mWL σ 18 5 c) 18 6 o) 18 3 0) τ → bM τ 18 pre → pre = clM c o 0 (aN F) → mGo g l (d + 3) md_X0_setUp (SH lk ex).length (mTot (SH lk ex)) (77, [some (.ref 18), some (.long c), none, some (.long o), none, L5, none, L7], [], SH lk ex, τ) (fun r sp σ1 => r = none ∧ sp = SH lk ex ∧ bS σ σ1 18 c o (mvs F c o)) := by
    intro τ pre L5 L7 ht hb hp
    refine mGo_runS 85 (n := 400) ok rfl ?_
    rw [sr4]
    have := len1 (aN F) 0
    exact post2 (aN F - 4) 4 (by omega) (by omega) τ pre ht hb (by rw [hp]; omega) (by rw [hp]; rfl)
  have loop1 : ∀ m k : Nat, k + m = aN F → ∀ (τ : mHp) (pre : List (Nat × Nat)), frB 18 (mWI (mWL (mWL σ 18 5 c) 18 6 o) 18 3 0) τ → bM τ 18 pre → pre.length + m ≤ 40 → pre ++ clM c o k m = clM c o 0 (aN F) → mGo g l (d + 3) md_X0_setUp (SH lk ex).length (mTot (SH lk ex)) (21, [some (.ref 18), some (.long c), none, some (.long o), none, some (.long (srN o k)), none, some (.int (nI k))], [], SH lk ex, τ) (fun r sp σ1 => r = none ∧ sp = SH lk ex ∧ bS σ σ1 18 c o (mvs F c o)) := by
    intro m
    induction m with
    | zero =>
      intro k hk τ pre ht hb hpl hp
      rw [show clM c o k 0 = [] from rfl, List.append_nil] at hp
      have hfr := (((fr.refl (σ := σ)).WL (k := 5) (v := c) (i := 18) (lo := 18) (hi := 21) (by decide) (by decide)).WL (k := 6) (v := o) (i := 18) (by decide) (by decide)).WI (k := 3) (v := 0) (i := 18) (by decide) (by decide) |>.trans ht.1
      have hct := cF_fr hfr (Or.inl (by decide)) hc
      refine mGo_run (n := 400) ok rfl ?_
      rw [hct.1]
      refine mGo_if ok rfl (fun h => ?_) (fun h => ?_)
      · exact second τ pre _ _ ht hb hp
      · exact absurd (nI_le (show aN F ≤ k by omega) (by omega)) h
    | succ m ih =>
      intro k hk τ pre ht hb hpl hp
      have hfr := (((fr.refl (σ := σ)).WL (k := 5) (v := c) (i := 18) (lo := 18) (hi := 21) (by decide) (by decide)).WL (k := 6) (v := o) (i := 18) (by decide) (by decide)).WI (k := 3) (v := 0) (i := 18) (by decide) (by decide) |>.trans ht.1
      have hct := cF_fr hfr (Or.inl (by decide)) hc
      have hcl : τ.2.1 18 5 = c := by rw [ht.2.2]; show (mWL (mWL σ 18 5 c) 18 6 o).2.1 18 5 = c; simp [WL_at]
      refine mGo_run (n := 400) ok rfl ?_
      rw [hct.1]
      refine mGo_if ok rfl (fun h => ?_) (fun h => ?_)
      · exact absurd h (nI_ge (show k < aN F by omega) (by omega))
      · refine mGo_run (n := 400) ok rfl ?_
        refine mGo_if ok rfl (fun h1 => ?_) (fun h1 => ?_)
        · have e : clM c o k (m + 1) = [] := clM_nil _ _ (srN_zero (lg0.mp h1))
          rw [e, List.append_nil] at hp
          exact second τ pre _ _ ht hb hp
        · have cont : ∀ (τ1 : mHp) (pre1 : List (Nat × Nat)), frB 18 τ τ1 → bM τ1 18 pre1 → pre1.length ≤ pre.length + 1 → pre1 ++ clM c o (k + 1) m = clM c o 0 (aN F) → mGo g l (d + 3) md_X0_setUp (SH lk ex).length (mTot (SH lk ex)) (65, [some (.ref 18), some (.long c), none, some (.long o), none, some (.long (srN o k)), none, some (.int (nI k))], [], SH lk ex, τ1) (fun r sp σ1 => r = none ∧ sp = SH lk ex ∧ bS σ σ1 18 c o (mvs F c o)) := by
            intro τ1 pre1 g1 g2 g3 g4
            refine mGo_runS 21 (n := 400) ok rfl ?_
            rw [nI_1]
            exact ih (k + 1) (by omega) τ1 pre1 (ht.trans g1) g2 (by omega) g4
          refine mGo_run (n := 400) ok rfl ?_
          refine mGo_if ok rfl (fun h2 => ?_) (fun h2 => ?_)
          · have e : tb o k = false := by
              have := and_one0.mp (lg0.mp h2)
              rw [tb_srN] at this
              simpa using this
            simp only [clM, e] at hp
            exact cont τ pre frB.refl hb (by omega) (by simpa using hp)
          · have e : tb o k = true := by
              cases z : tb o k with
              | true => rfl
              | false => exact absurd (lg0.mpr (and_one0.mpr (by rw [tb_srN]; simpa using z))) h2
            refine mGo_run (n := 400) ok rfl ?_
            refine mGo_callP ok rfl (by omega) (c_canClaim18 (d := d) hcl (f := k) (by omega)) ?_
            refine mGo_run (n := 400) ok rfl ?_
            refine mGo_if ok rfl (fun h3 => ?_) (fun h3 => ?_)
            · have e3 : ¬ canC c k = true := fun z => by rw [if_pos z] at h3; exact absurd h3 (by decide)
              simp only [clM, e, e3] at hp
              exact cont τ pre frB.refl hb (by omega) (by simpa using hp)
            · have e3 : canC c k = true := by
                by_cases z : canC c k = true
                · exact z
                · rw [if_neg z] at h3; exact absurd rfl h3
              simp only [clM, e, e3] at hp
              refine mGo_run (n := 400) ok rfl ?_
              refine mGo_callV ok rfl (by omega) (c_addMove18 (d := d) hb (by omega) 0 k) (fun σ1 hσ1 => ?_)
              exact cont σ1 _ hσ1.1 hσ1.2 (by simp) (by rw [List.append_assoc]; simpa using hp)
  exact loop1 (aN F) 0 (by omega) _ [] frB.refl ⟨by simp [WI_at]; rfl, fun i q hq => by simp at hq⟩ (by simp; omega) rfl
set_option maxHeartbeats 1000000 in
theorem c_setUp28 (hf : fOk F) (hc : cF σ F) (c o : Int64) : mNV g l (d + 3) 1 [.ref 28, .long c, .long o] lk ex σ (fun σ1 => bS σ σ1 28 c o (mvs F c o)) := by
  have ok : mOkP md_X0_setUp := ok_at 1 (by decide) rfl
  refine mC_of (md := md_X0_setUp) rfl (lt_at (by decide)) rfl ?_
  have hn := hf.2.1
  have h4n := hf.1
  have len1 := fun m k => clM_len c o m k
  have len2 := fun m k => atM_len F c m k
  refine mGo_runS 21 (n := 400) ok rfl ?_
  have post2 : ∀ m k : Nat, k + m = aN F → 4 ≤ k → ∀ (τ : mHp) (pre : List (Nat × Nat)), frB 28 (mWI (mWL (mWL σ 28 5 c) 28 6 o) 28 3 0) τ → bM τ 28 pre → pre.length + 2 * m ≤ 112 → pre ++ atM F c k m = mvs F c o → mGo g l (d + 3) md_X0_setUp (SH lk ex).length (mTot (SH lk ex)) (85, [some (.ref 28), some (.long c), none, some (.long o), none, some (.long (srN c k)), none, some (.int (nI k))], [], SH lk ex, τ) (fun r sp σ1 => r = none ∧ sp = SH lk ex ∧ bS σ σ1 28 c o (mvs F c o)) := by
    intro m
    induction m with
    | zero =>
      intro k hk h4 τ pre ht hb hpl hp
      rw [show atM F c k 0 = [] from rfl, List.append_nil] at hp
      subst hp
      have hct := cF_fr (σ1 := τ) (lo := 28) (hi := 31) ((((fr.refl (σ := σ)).WL (by decide) (by decide)).WL (by decide) (by decide)).WI (by decide) (by decide) |>.trans ht.1) (Or.inl (by decide)) hc
      refine mGo_run (n := 400) ok rfl ?_
      rw [hct.1]
      refine mGo_if ok rfl (fun h => ?_) (fun h => ?_)
      · refine mGo_run (n := 400) ok rfl ?_
        refine mGo_ret ok rfl trivial ⟨rfl, rfl, (((fr.refl (σ := σ)).WL (by decide) (by decide)).WL (by decide) (by decide)).WI (by decide) (by decide) |>.trans ht.1, fun k hk => ?_, ?_, ?_, fun k h5 h6 => ?_, hb⟩
        · rw [ht.2.1 k hk, WI_at, if_neg (fun z => hk z.2)]; rfl
        · rw [ht.2.2]; show (mWL (mWL σ 28 5 c) 28 6 o).2.1 28 5 = c; simp [WL_at]
        · rw [ht.2.2]; show (mWL (mWL σ 28 5 c) 28 6 o).2.1 28 6 = o; simp [WL_at]
        · rw [ht.2.2]; show (mWL (mWL σ 28 5 c) 28 6 o).2.1 28 k = _; simp [WL_at, h5, h6]
      · exact absurd (nI_le (show aN F ≤ k by omega) (by omega)) h
    | succ m ih =>
      intro k hk h4 τ pre ht hb hpl hp
      have hfr := (((fr.refl (σ := σ)).WL (k := 5) (v := c) (i := 28) (lo := 28) (hi := 31) (by decide) (by decide)).WL (k := 6) (v := o) (i := 28) (by decide) (by decide)).WI (k := 3) (v := 0) (i := 28) (by decide) (by decide) |>.trans ht.1
      have hct := cF_fr hfr (Or.inl (by decide)) hc
      have hcl : τ.2.1 28 5 = c := by rw [ht.2.2]; show (mWL (mWL σ 28 5 c) 28 6 o).2.1 28 5 = c; simp [WL_at]
      have hkn : k < aN F := by omega
      refine mGo_run (n := 400) ok rfl ?_
      rw [hct.1]
      refine mGo_if ok rfl (fun h => ?_) (fun h => ?_)
      · exact absurd h (nI_ge hkn (by omega))
      · refine mGo_run (n := 400) ok rfl ?_
        refine mGo_if ok rfl (fun h1 => ?_) (fun h1 => ?_)
        · have hz := srN_zero (lg0.mp h1)
          have e : atM F c k (m + 1) = [] := atM_nil _ _ hz
          rw [e, List.append_nil] at hp
          subst hp
          refine mGo_run (n := 400) ok rfl ?_
          refine mGo_ret ok rfl trivial ⟨rfl, rfl, hfr, fun k hk => ?_, hcl, ?_, fun k h5 h6 => ?_, hb⟩
          · rw [ht.2.1 k hk, WI_at, if_neg (fun z => hk z.2)]; rfl
          · rw [ht.2.2]; show (mWL (mWL σ 28 5 c) 28 6 o).2.1 28 6 = o; simp [WL_at]
          · rw [ht.2.2]; show (mWL (mWL σ 28 5 c) 28 6 o).2.1 28 k = _; simp [WL_at, h5, h6]
        · have cont : ∀ (τ1 : mHp) (pre1 : List (Nat × Nat)), frB 28 τ τ1 → bM τ1 28 pre1 → pre1.length ≤ pre.length + 2 → pre1 ++ atM F c (k + 1) m = mvs F c o → mGo g l (d + 3) md_X0_setUp (SH lk ex).length (mTot (SH lk ex)) (119, [some (.ref 28), some (.long c), none, some (.long o), none, some (.long (srN c k)), none, some (.int (nI k))], [], SH lk ex, τ1) (fun r sp σ1 => r = none ∧ sp = SH lk ex ∧ bS σ σ1 28 c o (mvs F c o)) := by
            intro τ1 pre1 g1 g2 g3 g4
            refine mGo_runS 85 (n := 400) ok rfl ?_
            rw [nI_1]
            exact ih (k + 1) (by omega) (by omega) τ1 pre1 (ht.trans g1) g2 (by omega) g4
          refine mGo_run (n := 400) ok rfl ?_
          refine mGo_if ok rfl (fun h2 => ?_) (fun h2 => ?_)
          · have e : tb c k = false := by
              have := and_one0.mp (lg0.mp h2)
              rw [tb_srN] at this
              simpa using this
            simp only [atM, e] at hp
            exact cont τ pre frB.refl hb (by omega) (by simpa using hp)
          · have e : tb c k = true := by
              cases z : tb c k with
              | true => rfl
              | false => exact absurd (lg0.mpr (and_one0.mpr (by rw [tb_srN]; simpa using z))) h2
            simp only [atM, e, if_true] at hp
            refine mGo_run (n := 400) ok rfl ?_
            refine mGo_callV ok rfl (by omega) (c_addAttacks28 (d := d) hf hct hb hcl (by omega) h4 hkn) (fun σ1 hσ1 => ?_)
            have := atK_len F c k
            exact cont σ1 _ hσ1.1 hσ1.2 (by simp; omega) (by rw [List.append_assoc]; exact hp)
  have second : ∀ (τ : mHp) (pre : List (Nat × Nat)) (L5 L7 : Option Value), frB 28 (mWI (mWL (mWL σ 28 5 c) 28 6 o) 28 3 0) τ → bM τ 28 pre → pre = clM c o 0 (aN F) → mGo g l (d + 3) md_X0_setUp (SH lk ex).length (mTot (SH lk ex)) (77, [some (.ref 28), some (.long c), none, some (.long o), none, L5, none, L7], [], SH lk ex, τ) (fun r sp σ1 => r = none ∧ sp = SH lk ex ∧ bS σ σ1 28 c o (mvs F c o)) := by
    intro τ pre L5 L7 ht hb hp
    refine mGo_runS 85 (n := 400) ok rfl ?_
    rw [sr4]
    have := len1 (aN F) 0
    exact post2 (aN F - 4) 4 (by omega) (by omega) τ pre ht hb (by rw [hp]; omega) (by rw [hp]; rfl)
  have loop1 : ∀ m k : Nat, k + m = aN F → ∀ (τ : mHp) (pre : List (Nat × Nat)), frB 28 (mWI (mWL (mWL σ 28 5 c) 28 6 o) 28 3 0) τ → bM τ 28 pre → pre.length + m ≤ 40 → pre ++ clM c o k m = clM c o 0 (aN F) → mGo g l (d + 3) md_X0_setUp (SH lk ex).length (mTot (SH lk ex)) (21, [some (.ref 28), some (.long c), none, some (.long o), none, some (.long (srN o k)), none, some (.int (nI k))], [], SH lk ex, τ) (fun r sp σ1 => r = none ∧ sp = SH lk ex ∧ bS σ σ1 28 c o (mvs F c o)) := by
    intro m
    induction m with
    | zero =>
      intro k hk τ pre ht hb hpl hp
      rw [show clM c o k 0 = [] from rfl, List.append_nil] at hp
      have hfr := (((fr.refl (σ := σ)).WL (k := 5) (v := c) (i := 28) (lo := 28) (hi := 31) (by decide) (by decide)).WL (k := 6) (v := o) (i := 28) (by decide) (by decide)).WI (k := 3) (v := 0) (i := 28) (by decide) (by decide) |>.trans ht.1
      have hct := cF_fr hfr (Or.inl (by decide)) hc
      refine mGo_run (n := 400) ok rfl ?_
      rw [hct.1]
      refine mGo_if ok rfl (fun h => ?_) (fun h => ?_)
      · exact second τ pre _ _ ht hb hp
      · exact absurd (nI_le (show aN F ≤ k by omega) (by omega)) h
    | succ m ih =>
      intro k hk τ pre ht hb hpl hp
      have hfr := (((fr.refl (σ := σ)).WL (k := 5) (v := c) (i := 28) (lo := 28) (hi := 31) (by decide) (by decide)).WL (k := 6) (v := o) (i := 28) (by decide) (by decide)).WI (k := 3) (v := 0) (i := 28) (by decide) (by decide) |>.trans ht.1
      have hct := cF_fr hfr (Or.inl (by decide)) hc
      have hcl : τ.2.1 28 5 = c := by rw [ht.2.2]; show (mWL (mWL σ 28 5 c) 28 6 o).2.1 28 5 = c; simp [WL_at]
      refine mGo_run (n := 400) ok rfl ?_
      rw [hct.1]
      refine mGo_if ok rfl (fun h => ?_) (fun h => ?_)
      · exact absurd h (nI_ge (show k < aN F by omega) (by omega))
      · refine mGo_run (n := 400) ok rfl ?_
        refine mGo_if ok rfl (fun h1 => ?_) (fun h1 => ?_)
        · have e : clM c o k (m + 1) = [] := clM_nil _ _ (srN_zero (lg0.mp h1))
          rw [e, List.append_nil] at hp
          exact second τ pre _ _ ht hb hp
        · have cont : ∀ (τ1 : mHp) (pre1 : List (Nat × Nat)), frB 28 τ τ1 → bM τ1 28 pre1 → pre1.length ≤ pre.length + 1 → pre1 ++ clM c o (k + 1) m = clM c o 0 (aN F) → mGo g l (d + 3) md_X0_setUp (SH lk ex).length (mTot (SH lk ex)) (65, [some (.ref 28), some (.long c), none, some (.long o), none, some (.long (srN o k)), none, some (.int (nI k))], [], SH lk ex, τ1) (fun r sp σ1 => r = none ∧ sp = SH lk ex ∧ bS σ σ1 28 c o (mvs F c o)) := by
            intro τ1 pre1 g1 g2 g3 g4
            refine mGo_runS 21 (n := 400) ok rfl ?_
            rw [nI_1]
            exact ih (k + 1) (by omega) τ1 pre1 (ht.trans g1) g2 (by omega) g4
          refine mGo_run (n := 400) ok rfl ?_
          refine mGo_if ok rfl (fun h2 => ?_) (fun h2 => ?_)
          · have e : tb o k = false := by
              have := and_one0.mp (lg0.mp h2)
              rw [tb_srN] at this
              simpa using this
            simp only [clM, e] at hp
            exact cont τ pre frB.refl hb (by omega) (by simpa using hp)
          · have e : tb o k = true := by
              cases z : tb o k with
              | true => rfl
              | false => exact absurd (lg0.mpr (and_one0.mpr (by rw [tb_srN]; simpa using z))) h2
            refine mGo_run (n := 400) ok rfl ?_
            refine mGo_callP ok rfl (by omega) (c_canClaim28 (d := d) hcl (f := k) (by omega)) ?_
            refine mGo_run (n := 400) ok rfl ?_
            refine mGo_if ok rfl (fun h3 => ?_) (fun h3 => ?_)
            · have e3 : ¬ canC c k = true := fun z => by rw [if_pos z] at h3; exact absurd h3 (by decide)
              simp only [clM, e, e3] at hp
              exact cont τ pre frB.refl hb (by omega) (by simpa using hp)
            · have e3 : canC c k = true := by
                by_cases z : canC c k = true
                · exact z
                · rw [if_neg z] at h3; exact absurd rfl h3
              simp only [clM, e, e3] at hp
              refine mGo_run (n := 400) ok rfl ?_
              refine mGo_callV ok rfl (by omega) (c_addMove28 (d := d) hb (by omega) 0 k) (fun σ1 hσ1 => ?_)
              exact cont σ1 _ hσ1.1 hσ1.2 (by simp) (by rw [List.append_assoc]; simpa using hp)
  exact loop1 (aN F) 0 (by omega) _ [] frB.refl ⟨by simp [WI_at]; rfl, fun i q hq => by simp at hq⟩ (by simp; omega) rfl
end T
end
section
/-! the class Board: moves, replies, the next position -/
def mvOk (F : aF) (q : Nat × Nat) : Prop := q.2 < aN F ∧ q.1 ≤ 3 ∧ (q.1 ≠ 0 → aK F q.2 ≠ 0 ∧ ((q.1 = 2 ∨ q.1 = 3) ↔ aK F q.2 = 2))
theorem mvs_ok {F : aF} (hf : fOk F) {c o : Int64} {q : Nat × Nat} (h : q ∈ mvs F c o) : mvOk F q := by
  rcases List.mem_append.mp h with h | h
  · obtain ⟨h1, h2, h3, h4, h5⟩ := clM_mem h
    exact ⟨by omega, by omega, fun z => absurd h1 z⟩
  · obtain ⟨⟨h1, h2, h3⟩, h4⟩ := atM_mem h
    have hn := hf.1
    have hq : q.2 < aN F := by omega
    have k0 : aK F q.2 ≠ 0 := fun z => by have := (hf.2.2 q.2 hq).1.mp z; omega
    refine ⟨hq, by rcases h4 with h4 | h4 <;> omega, fun _ => ⟨k0, ?_⟩⟩
    rcases h4 with ⟨h5, h6⟩ | ⟨h5, h6, h7⟩
    · exact ⟨fun _ => h5, fun _ => h6⟩
    · constructor
      · intro z; omega
      · intro z; exact absurd z h5
theorem mvs_at {F : aF} (hf : fOk F) {c o : Int64} {i : Nat} {q : Nat × Nat} (h : (mvs F c o)[i]? = some q) : mvOk F q := mvs_ok hf (List.mem_of_getElem? h)
section T
variable {g : mG} {l : Launch} {d : Nat} {lk : Nat} {ex : mSh} {σ : mHp} {F : aF}
theorem c_hasMove18 {ms : List (Nat × Nat)} (hb : σ.1 18 3 = nI ms.length) (hl : ms.length ≤ 120) (m : Int32) : mNP g l d 5 [.ref 18, .int m] lk ex σ (.int (if 0 ≤ m ∧ m < nI ms.length then 1 else 0)) := by
  have ok : mOkP md_X0_hasMove := ok_at 5 (by decide) rfl
  refine mC_of (md := md_X0_hasMove) rfl (lt_at (by decide)) rfl ?_
  refine mGo_run (n := 400) ok rfl ?_
  refine mGo_if ok rfl (fun h => ?_) (fun h => ?_)
  · refine mGo_run (n := 400) ok rfl ?_
    rw [if_neg (fun q => absurd h (Int32.not_lt.mpr q.1))]
    exact mGo_ret ok rfl (Or.inl rfl) (⟨rfl, rfl, rfl⟩)
  · refine mGo_run (n := 400) ok rfl ?_
    rw [hb]
    refine mGo_if ok rfl (fun h1 => ?_) (fun h1 => ?_)
    · refine mGo_run (n := 400) ok rfl ?_
      rw [if_neg (fun q => absurd q.2 (Int32.not_lt.mpr h1))]
      exact mGo_ret ok rfl (Or.inl rfl) (⟨rfl, rfl, rfl⟩)
    · refine mGo_run (n := 400) ok rfl ?_
      rw [if_pos ⟨Int32.not_lt.mp h, Int32.not_le.mp h1⟩]
      exact mGo_ret ok rfl (Or.inr rfl) (⟨rfl, rfl, rfl⟩)
theorem c_hasMove118 {ms : List (Nat × Nat)} (hb : σ.1 18 3 = nI ms.length) (hl : ms.length ≤ 120) {i : Nat} (hi : i < ms.length) : mNP g l d 5 [.ref 18, .int (nI i)] lk ex σ (.int 1) := by
  have h := c_hasMove18 (g := g) (l := l) (d := d) (lk := lk) (ex := ex) hb hl (nI i)
  rw [if_pos ((i_in (by omega)).mpr ⟨i, hi, rfl⟩)] at h
  exact h
theorem c_hasMove018 {ms : List (Nat × Nat)} (hb : σ.1 18 3 = nI ms.length) (hl : ms.length ≤ 120) {m : Int32} (hm : ¬ ∃ j, j < ms.length ∧ m = nI j) : mNP g l d 5 [.ref 18, .int m] lk ex σ (.int 0) := by
  have h := c_hasMove18 (g := g) (l := l) (d := d) (lk := lk) (ex := ex) hb hl m
  rw [if_neg (fun q => hm ((i_in (by omega)).mp q))] at h
  exact h
theorem c_repliesTo018 {ms : List (Nat × Nat)} (hb : σ.1 18 3 = nI ms.length) (hl : ms.length ≤ 120) {m : Int32} (hm : ¬ ∃ j, j < ms.length ∧ m = nI j) : mNP g l (d + 1) 6 [.ref 18, .int m] lk ex σ (.int 0) := by
  have ok : mOkP md_X0_repliesTo := ok_at 6 (by decide) rfl
  refine mC_of (md := md_X0_repliesTo) rfl (lt_at (by decide)) rfl ?_
  refine mGo_run (n := 400) ok rfl ?_
  refine mGo_callP ok rfl (by omega) (c_hasMove018 (d := d) hb hl hm) ?_
  refine mGo_run (n := 400) ok rfl ?_
  refine mGo_if ok rfl (fun h => ?_) (fun h => ?_)
  · refine mGo_run (n := 400) ok rfl ?_
    exact mGo_ret ok rfl trivial (⟨rfl, rfl, rfl⟩)
  · exact absurd rfl h
theorem c_repliesTo18 (hf : fOk F) (hc : cF σ F) {ms : List (Nat × Nat)} (hb : bM σ 18 ms) (hl : ms.length ≤ 120) {i : Nat} {q : Nat × Nat} (hq : ms[i]? = some q) (ho : mvOk F q) : mNP g l (d + 2) 6 [.ref 18, .int (nI i)] lk ex σ (.int (nI (rpN F q))) := by
  have hi : i < ms.length := (List.getElem?_eq_some_iff.mp hq).1
  obtain ⟨b1, b2⟩ := hb.2 i q hq
  obtain ⟨o1, o2, o3⟩ := ho
  obtain ⟨w1, w2, w3, w4, w5, w6⟩ := hf.2.2 q.2 o1
  have hn := hf.2.1
  have ci : (nI i).toNatClampNeg = i := nI_clamp (by omega)
  have hin : vp_in (nI i) 120 := nI_in (by omega) (by omega)
  have ok : mOkP md_X0_repliesTo := ok_at 6 (by decide) rfl
  refine mC_of (md := md_X0_repliesTo) rfl (lt_at (by decide)) rfl ?_
  refine mGo_run (n := 400) ok rfl ?_
  refine mGo_callP ok rfl (by omega) (c_hasMove118 (d := d + 1) hb.1 hl hi) ?_
  refine mGo_run (n := 400) ok rfl ?_
  refine mGo_if ok rfl (fun h => ?_) (fun h => ?_)
  · exact absurd h (by decide)
  · refine mGo_run (n := 400) ok rfl ?_
    refine mGo_side ok rfl (hin) ?_
    rw [ci, b2]
    refine mGo_run (n := 400) ok rfl ?_
    refine mGo_side ok rfl (hin) ?_
    rw [ci, b1]
    refine mGo_run (n := 400) ok rfl ?_
    refine mGo_if ok rfl (fun h1 => ?_) (fun h1 => ?_)
    · have e : q.1 = 0 := (nI_eq (a := q.1) (b := 0) (by omega) (by omega)).mp h1
      refine mGo_run (n := 400) ok rfl ?_
      refine mGo_callP ok rfl (by omega) (c_attacksOn (d := d) hf hc o1) ?_
      refine mGo_run (n := 400) ok rfl ?_
      exact mGo_ret ok rfl trivial (⟨by rw [rpN, if_pos e], rfl, rfl⟩)
    · have e : q.1 ≠ 0 := fun z => h1 (by rw [z]; rfl)
      obtain ⟨k0, k2⟩ := o3 e
      have hA := w3 k0
      refine mGo_run (n := 400) ok rfl ?_
      refine mGo_callP ok rfl (by omega) (c_kindOf (d := d) hf.2.1 hc o1) ?_
      refine mGo_sw ok rfl ⟨fun h2 => ?_, fun h2 => ⟨fun h3 => ?_, fun h3 => ⟨fun h4 => ?_, fun h4 => ?_⟩⟩⟩
      · have e1 : aK F q.2 = 1 := (nI_eq (a := aK F q.2) (b := 1) (by omega) (by omega)).mp h2
        refine mGo_run (n := 400) ok rfl ?_
        refine mGo_callP ok rfl (by omega) (c_firstOf (d := d) hf.2.1 hc o1) ?_
        rw [if_neg k0]
        refine mGo_callP ok rfl (by omega) (c_attacksOn (d := d) hf hc (j := aA F q.2) (by omega)) ?_
        refine mGo_run (n := 400) ok rfl ?_
        exact mGo_ret ok rfl trivial (⟨by rw [rpN, if_neg e, if_pos e1], rfl, rfl⟩)
      · have e1 : aK F q.2 = 2 := (nI_eq (a := aK F q.2) (b := 2) (by omega) (by omega)).mp h3
        refine mGo_run (n := 400) ok rfl ?_
        exact mGo_ret ok rfl trivial (⟨by rw [rpN, if_neg e, if_neg (by omega), if_pos e1]; rfl, rfl, rfl⟩)
      · have e1 : aK F q.2 = 3 := (nI_eq (a := aK F q.2) (b := 3) (by omega) (by omega)).mp h4
        refine mGo_run (n := 400) ok rfl ?_
        exact mGo_ret ok rfl trivial (⟨by rw [rpN, if_neg e, if_neg (by omega), if_neg (by omega), if_pos e1]; rfl, rfl, rfl⟩)
      · have n1 : aK F q.2 ≠ 1 := fun z => h2 (by rw [z]; rfl)
        have n2 : aK F q.2 ≠ 2 := fun z => h3 (by rw [z]; rfl)
        have n3 : aK F q.2 ≠ 3 := fun z => h4 (by rw [z]; rfl)
        refine mGo_run (n := 400) ok rfl ?_
        refine mGo_callP ok rfl (by omega) (c_firstOf (d := d) hf.2.1 hc o1) ?_
        rw [if_neg k0]
        refine mGo_callP ok rfl (by omega) (c_attacksOn (d := d) hf hc (j := aA F q.2) (by omega)) ?_
        refine mGo_run (n := 400) ok rfl ?_
        exact mGo_ret ok rfl trivial (⟨by rw [rpN, if_neg e, if_neg n1, if_neg n2, if_neg n3, nI_1], rfl, rfl⟩)
theorem c_concede18 {c o : Int64} (hc : σ.2.1 18 5 = c) (ho : σ.2.1 18 6 = o) {f : Nat} (hf : f < 40) : mNV g l (d + 1) 8 [.ref 18, .int (nI f)] lk ex σ (fun σ1 => σ1 = mWL (mWL σ 18 7 (c ||| bit f)) 18 8 o) := by
  have ok : mOkP md_X0_concede := ok_at 8 (by decide) rfl
  refine mC_of (md := md_X0_concede) rfl (lt_at (by decide)) rfl ?_
  refine mGo_run (n := 400) ok rfl ?_
  refine mGo_callP ok rfl (by omega) (c_bitOf (d := d) (j := f) (by omega)) ?_
  refine mGo_run (n := 400) ok rfl ?_
  rw [hc, show (mWL σ 18 7 (c ||| bit f)).2.1 18 6 = o by simp [WL_at, ho]]
  exact mGo_ret ok rfl trivial (⟨rfl, rfl, rfl⟩)
theorem c_attack18 (hf : fOk F) (hc : cF σ F) {c o : Int64} (hcl : σ.2.1 18 5 = c) (hop : σ.2.1 18 6 = o) {man : Nat} (hman : σ.1 18 4 = nI man) (hm1 : man ≤ 1) {f r : Nat} (hfn : f < aN F) (k0 : aK F f ≠ 0) (hr : r < 2 ^ 31) : mNV g l (d + 1) 9 [.ref 18, .int (nI f), .int (nI r)] lk ex σ (fun σ1 => σ1 = mWL (mWL σ 18 7 (atP2 F man c o f r).1) 18 8 (atP2 F man c o f r).2) := by
  obtain ⟨w1, w2, w3, w4, w5, w6⟩ := hf.2.2 f hfn
  have hn := hf.2.1
  have hA := w3 k0
  have ok : mOkP md_X0_attack := ok_at 9 (by decide) rfl
  refine mC_of (md := md_X0_attack) rfl (lt_at (by decide)) rfl ?_
  have tail : ∀ (cl df : Int64) (L3 L5 : Option Value), (atP2 F man c o f r) = (c ||| cl, if man = 1 then o ||| df else df) → mGo g l (d + 1) md_X0_attack (SH lk ex).length (mTot (SH lk ex)) (108, [some (.ref 18), some (.int (nI f)), some (.int (nI r)), L3, none, L5, none, some (.long cl), none, some (.long df), none], [], SH lk ex, σ) (fun r1 sp σ1 => r1 = none ∧ sp = SH lk ex ∧ σ1 = mWL (mWL σ 18 7 (atP2 F man c o f r).1) 18 8 (atP2 F man c o f r).2) := by
    intro cl df L3 L5 he
    rw [he]
    refine mGo_run (n := 400) ok rfl ?_
    rw [hcl, show (mWL σ 18 7 (c ||| cl)).1 18 4 = nI man from hman]
    refine mGo_if ok rfl (fun h => ?_) (fun h => ?_)
    · have e : man = 1 := (nI_eq (a := man) (b := 1) (by omega) (by omega)).mp h
      refine mGo_run (n := 400) ok rfl ?_
      rw [show (mWL σ 18 7 (c ||| cl)).2.1 18 6 = o by simp [WL_at, hop], if_pos e]
      exact mGo_ret ok rfl trivial (⟨rfl, rfl, rfl⟩)
    · have e : man ≠ 1 := fun z => h (by rw [z]; rfl)
      refine mGo_run (n := 400) ok rfl ?_
      rw [if_neg e]
      exact mGo_ret ok rfl trivial (⟨rfl, rfl, rfl⟩)
  have sw : ∀ sb : Int64, (2 ≤ aK F f → sb = bit (aB F f)) → mGo g l (d + 1) md_X0_attack (SH lk ex).length (mTot (SH lk ex)) (23, [some (.ref 18), some (.int (nI f)), some (.int (nI r)), some (.long (bit (aA F f))), none, none, none, none, none, none, none], [.long sb], SH lk ex, σ) (fun r1 sp σ1 => r1 = none ∧ sp = SH lk ex ∧ σ1 = mWL (mWL σ 18 7 (atP2 F man c o f r).1) 18 8 (atP2 F man c o f r).2) := by
    intro sb hsb
    refine mGo_run (n := 400) ok rfl ?_
    refine mGo_callP ok rfl (by omega) (c_kindOf (d := d) hf.2.1 hc hfn) ?_
    refine mGo_sw ok rfl ⟨fun h2 => ?_, fun h2 => ⟨fun h3 => ?_, fun h3 => ⟨fun h4 => ?_, fun h4 => ⟨fun h5 => ?_, fun h5 => ?_⟩⟩⟩⟩
    · have e1 : aK F f = 1 := (nI_eq (a := aK F f) (b := 1) (by omega) (by omega)).mp h2
      refine mGo_runS 108 (n := 400) ok rfl ?_
      exact tail _ _ _ _ (by simp [atP2, e1])
    · have e1 : aK F f = 2 := (nI_eq (a := aK F f) (b := 2) (by omega) (by omega)).mp h3
      refine mGo_run (n := 400) ok rfl ?_
      refine mGo_if ok rfl (fun h6 => ?_) (fun h6 => ?_)
      · have e2 : r = 0 := (nI_eq (a := r) (b := 0) (by omega) (by omega)).mp h6
        refine mGo_runS 108 (n := 400) ok rfl ?_
        exact tail _ _ _ _ (by simp [atP2, e1, e2])
      · have e2 : r ≠ 0 := fun z => h6 (by rw [z]; rfl)
        refine mGo_runS 108 (n := 400) ok rfl ?_
        exact tail _ _ _ _ (by rw [hsb (by omega)]; simp [atP2, e1, e2])
    · have e1 : aK F f = 3 := (nI_eq (a := aK F f) (b := 3) (by omega) (by omega)).mp h4
      refine mGo_runS 108 (n := 400) ok rfl ?_
      exact tail _ _ _ _ (by rw [hsb (by omega)]; simp [atP2, e1])
    · have e1 : aK F f = 4 := (nI_eq (a := aK F f) (b := 4) (by omega) (by omega)).mp h5
      refine mGo_runS 108 (n := 400) ok rfl ?_
      exact tail _ _ _ _ (by rw [hsb (by omega)]; simp [atP2, e1])
    · exfalso
      have n1 : aK F f ≠ 1 := fun z => h2 (by rw [z]; rfl)
      have n2 : aK F f ≠ 2 := fun z => h3 (by rw [z]; rfl)
      have n3 : aK F f ≠ 3 := fun z => h4 (by rw [z]; rfl)
      have n4 : aK F f ≠ 4 := fun z => h5 (by rw [z]; rfl)
      omega
  refine mGo_run (n := 400) ok rfl ?_
  refine mGo_callP ok rfl (by omega) (c_firstOf (d := d) hf.2.1 hc hfn) ?_
  rw [if_neg k0]
  refine mGo_callP ok rfl (by omega) (c_bitOf (d := d) (j := aA F f) (by omega)) ?_
  refine mGo_run (n := 400) ok rfl ?_
  refine mGo_callP ok rfl (by omega) (c_secondOf (d := d) hf.2.1 hc hfn) ?_
  by_cases k2 : aK F f < 2
  · rw [if_pos k2]
    refine mGo_callP ok rfl (by omega) (c_bitOf0 (d := d)) ?_
    exact sw 0 (fun z => by omega)
  · rw [if_neg k2]
    have := w4 (by omega)
    refine mGo_callP ok rfl (by omega) (c_bitOf (d := d) (j := aB F f) (by omega)) ?_
    exact sw _ (fun _ => rfl)
theorem c_answer18 (hf : fOk F) (hc : cF σ F) {c o : Int64} (hcl : σ.2.1 18 5 = c) (hop : σ.2.1 18 6 = o) {man : Nat} (hman : σ.1 18 4 = nI man) (hm1 : man ≤ 1) {ms : List (Nat × Nat)} (hb : bM σ 18 ms) (hl : ms.length ≤ 120) {i r : Nat} {q : Nat × Nat} (hq : ms[i]? = some q) (ho : mvOk F q) (hr : r < rpN F q) : mNV g l (d + 3) 7 [.ref 18, .int (nI i), .int (nI r)] lk ex σ (fun σ1 => σ1 = mWL (mWL σ 18 7 (rpP F man c o q r).1) 18 8 (rpP F man c o q r).2) := by
  have hi : i < ms.length := (List.getElem?_eq_some_iff.mp hq).1
  obtain ⟨b1, b2⟩ := hb.2 i q hq
  obtain ⟨o1, o2, o3⟩ := ho
  obtain ⟨w1, w2, w3, w4, w5, w6⟩ := hf.2.2 q.2 o1
  have hn := hf.2.1
  have ci : (nI i).toNatClampNeg = i := nI_clamp (by omega)
  have hin : vp_in (nI i) 120 := nI_in (by omega) (by omega)
  have hr2 : r < 4 := by
    unfold rpN at hr
    have a1 : ∀ k, atk k ≤ 2 := fun k => by unfold atk; split <;> (try split) <;> omega
    have := a1 (aK F q.2)
    have := a1 (aK F (aA F q.2))
    split at hr
    · omega
    · split at hr
      · omega
      · split at hr
        · omega
        · split at hr <;> omega
  have ok : mOkP md_X0_answer := ok_at 7 (by decide) rfl
  refine mC_of (md := md_X0_answer) rfl (lt_at (by decide)) rfl ?_
  refine mGo_run (n := 400) ok rfl ?_
  refine mGo_callP ok rfl (by omega) (c_hasMove118 (d := d) hb.1 hl hi) ?_
  refine mGo_run (n := 400) ok rfl ?_
  refine mGo_if ok rfl (fun h => ?_) (fun h => ?_)
  · exact absurd h (by decide)
  · refine mGo_run (n := 400) ok rfl ?_
    refine mGo_side ok rfl (hin) ?_
    rw [ci, b2]
    refine mGo_run (n := 400) ok rfl ?_
    refine mGo_side ok rfl (hin) ?_
    rw [ci, b1]
    refine mGo_run (n := 400) ok rfl ?_
    refine mGo_callP ok rfl (by omega) (c_firstOf (d := d) hf.2.1 hc o1) ?_
    refine mGo_run (n := 400) ok rfl ?_
    refine mGo_callP ok rfl (by omega) (c_secondOf (d := d) hf.2.1 hc o1) ?_
    refine mGo_run (n := 400) ok rfl ?_
    refine mGo_if ok rfl (fun h1 => ?_) (fun h1 => ?_)
    · have e : q.1 = 0 := (nI_eq (a := q.1) (b := 0) (by omega) (by omega)).mp h1
      have k0 : aK F q.2 ≠ 0 := fun z => by rw [rpN, if_pos e, z] at hr; exact absurd hr (by simp [atk])
      refine mGo_run (n := 400) ok rfl ?_
      refine mGo_callV ok rfl (by omega) (c_attack18 (d := d) hf hc hcl hop hman hm1 o1 k0 (by omega)) (fun σ1 hσ1 => ?_)
      refine mGo_run (n := 400) ok rfl ?_
      exact mGo_ret ok rfl trivial (⟨rfl, rfl, by rw [rpP, if_pos e]; exact hσ1⟩)
    · have e : q.1 ≠ 0 := fun z => h1 (by rw [z]; rfl)
      obtain ⟨k0, k2⟩ := o3 e
      have hA := w3 k0
      rw [if_neg k0]
      refine mGo_run (n := 400) ok rfl ?_
      refine mGo_if ok rfl (fun h2 => ?_) (fun h2 => ?_)
      · have e2 : q.1 = 2 := (nI_eq (a := q.1) (b := 2) (by omega) (by omega)).mp h2
        refine mGo_run (n := 400) ok rfl ?_
        refine mGo_callV ok rfl (by omega) (c_concede18 (d := d) hcl hop (f := aA F q.2) (by omega)) (fun σ1 hσ1 => ?_)
        refine mGo_run (n := 400) ok rfl ?_
        exact mGo_ret ok rfl trivial (⟨rfl, rfl, by rw [rpP, if_neg e, if_pos e2]; exact hσ1⟩)
      · have e2 : q.1 ≠ 2 := fun z => h2 (by rw [z]; rfl)
        refine mGo_run (n := 400) ok rfl ?_
        refine mGo_if ok rfl (fun h3 => ?_) (fun h3 => ?_)
        · have e3 : q.1 = 3 := (nI_eq (a := q.1) (b := 3) (by omega) (by omega)).mp h3
          have k22 := k2.mp (Or.inr e3)
          have := w4 (by omega)
          rw [if_neg (by omega)]
          refine mGo_run (n := 400) ok rfl ?_
          refine mGo_callV ok rfl (by omega) (c_concede18 (d := d) hcl hop (f := aB F q.2) (by omega)) (fun σ1 hσ1 => ?_)
          refine mGo_run (n := 400) ok rfl ?_
          exact mGo_ret ok rfl trivial (⟨rfl, rfl, by rw [rpP, if_neg e, if_neg e2, if_pos e3]; exact hσ1⟩)
        · have e3 : q.1 ≠ 3 := fun z => h3 (by rw [z]; rfl)
          have n2 : aK F q.2 ≠ 2 := fun z => by rcases k2.mpr z with z | z <;> omega
          refine mGo_run (n := 400) ok rfl ?_
          refine mGo_callP ok rfl (by omega) (c_kindOf (d := d) hf.2.1 hc o1) ?_
          refine mGo_run (n := 400) ok rfl ?_
          refine mGo_if ok rfl (fun h4 => ?_) (fun h4 => ?_)
          · have e4 : aK F q.2 = 3 := (nI_eq (a := aK F q.2) (b := 3) (by omega) (by omega)).mp h4
            have := w4 (by omega)
            rw [if_neg (by omega)]
            refine mGo_run (n := 400) ok rfl ?_
            refine mGo_if ok rfl (fun h5 => ?_) (fun h5 => ?_)
            · have e5 : r = 0 := (nI_eq (a := r) (b := 0) (by omega) (by omega)).mp h5
              refine mGo_run (n := 400) ok rfl ?_
              refine mGo_callV ok rfl (by omega) (c_concede18 (d := d) hcl hop (f := aA F q.2) (by omega)) (fun σ1 hσ1 => ?_)
              refine mGo_run (n := 400) ok rfl ?_
              exact mGo_ret ok rfl trivial (⟨rfl, rfl, by rw [rpP, if_neg e, if_neg e2, if_neg e3, if_pos e4, if_pos e5]; exact hσ1⟩)
            · have e5 : r ≠ 0 := fun z => h5 (by rw [z]; rfl)
              refine mGo_run (n := 400) ok rfl ?_
              refine mGo_callV ok rfl (by omega) (c_concede18 (d := d) hcl hop (f := aB F q.2) (by omega)) (fun σ1 hσ1 => ?_)
              refine mGo_run (n := 400) ok rfl ?_
              exact mGo_ret ok rfl trivial (⟨rfl, rfl, by rw [rpP, if_neg e, if_neg e2, if_neg e3, if_pos e4, if_neg e5]; exact hσ1⟩)
          · have e4 : aK F q.2 ≠ 3 := fun z => h4 (by rw [z]; rfl)
            have a1 : atk (aK F (aA F q.2)) ≤ 2 := by unfold atk; split <;> (try split) <;> omega
            refine mGo_run (n := 400) ok rfl ?_
            refine mGo_callP ok rfl (by omega) (c_attacksOn (d := d) hf hc (j := aA F q.2) (by omega)) ?_
            refine mGo_run (n := 400) ok rfl ?_
            refine mGo_if ok rfl (fun h5 => ?_) (fun h5 => ?_)
            · have e5 : ¬ r < atk (aK F (aA F q.2)) := fun z => by
                have := (nI_leI (a := atk (aK F (aA F q.2))) (b := r) (by omega) (by omega)).mp h5
                omega
              have n1 : aK F q.2 ≠ 1 := fun z => by
                rw [rpN, if_neg e, if_pos z] at hr
                exact e5 hr
              have := w4 (by omega)
              rw [if_neg (by omega)]
              refine mGo_run (n := 400) ok rfl ?_
              refine mGo_callV ok rfl (by omega) (c_concede18 (d := d) hcl hop (f := aB F q.2) (by omega)) (fun σ1 hσ1 => ?_)
              refine mGo_run (n := 400) ok rfl ?_
              exact mGo_ret ok rfl trivial (⟨rfl, rfl, by rw [rpP, if_neg e, if_neg e2, if_neg e3, if_neg e4, if_neg e5]; exact hσ1⟩)
            · have e5 : r < atk (aK F (aA F q.2)) := by
                rcases Nat.lt_or_ge r (atk (aK F (aA F q.2))) with z | z
                · exact z
                · exact absurd (nI_le z (by omega)) h5
              have ka : aK F (aA F q.2) ≠ 0 := fun z => by rw [z] at e5; exact absurd e5 (by simp [atk])
              refine mGo_run (n := 400) ok rfl ?_
              refine mGo_callV ok rfl (by omega) (c_attack18 (d := d) hf hc hcl hop hman hm1 (f := aA F q.2) (by omega) ka (by omega)) (fun σ1 hσ1 => ?_)
              refine mGo_run (n := 400) ok rfl ?_
              exact mGo_ret ok rfl trivial (⟨rfl, rfl, by rw [rpP, if_neg e, if_neg e2, if_neg e3, if_neg e4, if_pos e5]; exact hσ1⟩)
theorem c_hasMove28 {ms : List (Nat × Nat)} (hb : σ.1 28 3 = nI ms.length) (hl : ms.length ≤ 120) (m : Int32) : mNP g l d 5 [.ref 28, .int m] lk ex σ (.int (if 0 ≤ m ∧ m < nI ms.length then 1 else 0)) := by
  have ok : mOkP md_X0_hasMove := ok_at 5 (by decide) rfl
  refine mC_of (md := md_X0_hasMove) rfl (lt_at (by decide)) rfl ?_
  refine mGo_run (n := 400) ok rfl ?_
  refine mGo_if ok rfl (fun h => ?_) (fun h => ?_)
  · refine mGo_run (n := 400) ok rfl ?_
    rw [if_neg (fun q => absurd h (Int32.not_lt.mpr q.1))]
    exact mGo_ret ok rfl (Or.inl rfl) (⟨rfl, rfl, rfl⟩)
  · refine mGo_run (n := 400) ok rfl ?_
    rw [hb]
    refine mGo_if ok rfl (fun h1 => ?_) (fun h1 => ?_)
    · refine mGo_run (n := 400) ok rfl ?_
      rw [if_neg (fun q => absurd q.2 (Int32.not_lt.mpr h1))]
      exact mGo_ret ok rfl (Or.inl rfl) (⟨rfl, rfl, rfl⟩)
    · refine mGo_run (n := 400) ok rfl ?_
      rw [if_pos ⟨Int32.not_lt.mp h, Int32.not_le.mp h1⟩]
      exact mGo_ret ok rfl (Or.inr rfl) (⟨rfl, rfl, rfl⟩)
theorem c_hasMove128 {ms : List (Nat × Nat)} (hb : σ.1 28 3 = nI ms.length) (hl : ms.length ≤ 120) {i : Nat} (hi : i < ms.length) : mNP g l d 5 [.ref 28, .int (nI i)] lk ex σ (.int 1) := by
  have h := c_hasMove28 (g := g) (l := l) (d := d) (lk := lk) (ex := ex) hb hl (nI i)
  rw [if_pos ((i_in (by omega)).mpr ⟨i, hi, rfl⟩)] at h
  exact h
theorem c_hasMove028 {ms : List (Nat × Nat)} (hb : σ.1 28 3 = nI ms.length) (hl : ms.length ≤ 120) {m : Int32} (hm : ¬ ∃ j, j < ms.length ∧ m = nI j) : mNP g l d 5 [.ref 28, .int m] lk ex σ (.int 0) := by
  have h := c_hasMove28 (g := g) (l := l) (d := d) (lk := lk) (ex := ex) hb hl m
  rw [if_neg (fun q => hm ((i_in (by omega)).mp q))] at h
  exact h
theorem c_repliesTo028 {ms : List (Nat × Nat)} (hb : σ.1 28 3 = nI ms.length) (hl : ms.length ≤ 120) {m : Int32} (hm : ¬ ∃ j, j < ms.length ∧ m = nI j) : mNP g l (d + 1) 6 [.ref 28, .int m] lk ex σ (.int 0) := by
  have ok : mOkP md_X0_repliesTo := ok_at 6 (by decide) rfl
  refine mC_of (md := md_X0_repliesTo) rfl (lt_at (by decide)) rfl ?_
  refine mGo_run (n := 400) ok rfl ?_
  refine mGo_callP ok rfl (by omega) (c_hasMove028 (d := d) hb hl hm) ?_
  refine mGo_run (n := 400) ok rfl ?_
  refine mGo_if ok rfl (fun h => ?_) (fun h => ?_)
  · refine mGo_run (n := 400) ok rfl ?_
    exact mGo_ret ok rfl trivial (⟨rfl, rfl, rfl⟩)
  · exact absurd rfl h
theorem c_repliesTo28 (hf : fOk F) (hc : cF σ F) {ms : List (Nat × Nat)} (hb : bM σ 28 ms) (hl : ms.length ≤ 120) {i : Nat} {q : Nat × Nat} (hq : ms[i]? = some q) (ho : mvOk F q) : mNP g l (d + 2) 6 [.ref 28, .int (nI i)] lk ex σ (.int (nI (rpN F q))) := by
  have hi : i < ms.length := (List.getElem?_eq_some_iff.mp hq).1
  obtain ⟨b1, b2⟩ := hb.2 i q hq
  obtain ⟨o1, o2, o3⟩ := ho
  obtain ⟨w1, w2, w3, w4, w5, w6⟩ := hf.2.2 q.2 o1
  have hn := hf.2.1
  have ci : (nI i).toNatClampNeg = i := nI_clamp (by omega)
  have hin : vp_in (nI i) 120 := nI_in (by omega) (by omega)
  have ok : mOkP md_X0_repliesTo := ok_at 6 (by decide) rfl
  refine mC_of (md := md_X0_repliesTo) rfl (lt_at (by decide)) rfl ?_
  refine mGo_run (n := 400) ok rfl ?_
  refine mGo_callP ok rfl (by omega) (c_hasMove128 (d := d + 1) hb.1 hl hi) ?_
  refine mGo_run (n := 400) ok rfl ?_
  refine mGo_if ok rfl (fun h => ?_) (fun h => ?_)
  · exact absurd h (by decide)
  · refine mGo_run (n := 400) ok rfl ?_
    refine mGo_side ok rfl (hin) ?_
    rw [ci, b2]
    refine mGo_run (n := 400) ok rfl ?_
    refine mGo_side ok rfl (hin) ?_
    rw [ci, b1]
    refine mGo_run (n := 400) ok rfl ?_
    refine mGo_if ok rfl (fun h1 => ?_) (fun h1 => ?_)
    · have e : q.1 = 0 := (nI_eq (a := q.1) (b := 0) (by omega) (by omega)).mp h1
      refine mGo_run (n := 400) ok rfl ?_
      refine mGo_callP ok rfl (by omega) (c_attacksOn (d := d) hf hc o1) ?_
      refine mGo_run (n := 400) ok rfl ?_
      exact mGo_ret ok rfl trivial (⟨by rw [rpN, if_pos e], rfl, rfl⟩)
    · have e : q.1 ≠ 0 := fun z => h1 (by rw [z]; rfl)
      obtain ⟨k0, k2⟩ := o3 e
      have hA := w3 k0
      refine mGo_run (n := 400) ok rfl ?_
      refine mGo_callP ok rfl (by omega) (c_kindOf (d := d) hf.2.1 hc o1) ?_
      refine mGo_sw ok rfl ⟨fun h2 => ?_, fun h2 => ⟨fun h3 => ?_, fun h3 => ⟨fun h4 => ?_, fun h4 => ?_⟩⟩⟩
      · have e1 : aK F q.2 = 1 := (nI_eq (a := aK F q.2) (b := 1) (by omega) (by omega)).mp h2
        refine mGo_run (n := 400) ok rfl ?_
        refine mGo_callP ok rfl (by omega) (c_firstOf (d := d) hf.2.1 hc o1) ?_
        rw [if_neg k0]
        refine mGo_callP ok rfl (by omega) (c_attacksOn (d := d) hf hc (j := aA F q.2) (by omega)) ?_
        refine mGo_run (n := 400) ok rfl ?_
        exact mGo_ret ok rfl trivial (⟨by rw [rpN, if_neg e, if_pos e1], rfl, rfl⟩)
      · have e1 : aK F q.2 = 2 := (nI_eq (a := aK F q.2) (b := 2) (by omega) (by omega)).mp h3
        refine mGo_run (n := 400) ok rfl ?_
        exact mGo_ret ok rfl trivial (⟨by rw [rpN, if_neg e, if_neg (by omega), if_pos e1]; rfl, rfl, rfl⟩)
      · have e1 : aK F q.2 = 3 := (nI_eq (a := aK F q.2) (b := 3) (by omega) (by omega)).mp h4
        refine mGo_run (n := 400) ok rfl ?_
        exact mGo_ret ok rfl trivial (⟨by rw [rpN, if_neg e, if_neg (by omega), if_neg (by omega), if_pos e1]; rfl, rfl, rfl⟩)
      · have n1 : aK F q.2 ≠ 1 := fun z => h2 (by rw [z]; rfl)
        have n2 : aK F q.2 ≠ 2 := fun z => h3 (by rw [z]; rfl)
        have n3 : aK F q.2 ≠ 3 := fun z => h4 (by rw [z]; rfl)
        refine mGo_run (n := 400) ok rfl ?_
        refine mGo_callP ok rfl (by omega) (c_firstOf (d := d) hf.2.1 hc o1) ?_
        rw [if_neg k0]
        refine mGo_callP ok rfl (by omega) (c_attacksOn (d := d) hf hc (j := aA F q.2) (by omega)) ?_
        refine mGo_run (n := 400) ok rfl ?_
        exact mGo_ret ok rfl trivial (⟨by rw [rpN, if_neg e, if_neg n1, if_neg n2, if_neg n3, nI_1], rfl, rfl⟩)
theorem c_concede28 {c o : Int64} (hc : σ.2.1 28 5 = c) (ho : σ.2.1 28 6 = o) {f : Nat} (hf : f < 40) : mNV g l (d + 1) 8 [.ref 28, .int (nI f)] lk ex σ (fun σ1 => σ1 = mWL (mWL σ 28 7 (c ||| bit f)) 28 8 o) := by
  have ok : mOkP md_X0_concede := ok_at 8 (by decide) rfl
  refine mC_of (md := md_X0_concede) rfl (lt_at (by decide)) rfl ?_
  refine mGo_run (n := 400) ok rfl ?_
  refine mGo_callP ok rfl (by omega) (c_bitOf (d := d) (j := f) (by omega)) ?_
  refine mGo_run (n := 400) ok rfl ?_
  rw [hc, show (mWL σ 28 7 (c ||| bit f)).2.1 28 6 = o by simp [WL_at, ho]]
  exact mGo_ret ok rfl trivial (⟨rfl, rfl, rfl⟩)
theorem c_attack28 (hf : fOk F) (hc : cF σ F) {c o : Int64} (hcl : σ.2.1 28 5 = c) (hop : σ.2.1 28 6 = o) {man : Nat} (hman : σ.1 28 4 = nI man) (hm1 : man ≤ 1) {f r : Nat} (hfn : f < aN F) (k0 : aK F f ≠ 0) (hr : r < 2 ^ 31) : mNV g l (d + 1) 9 [.ref 28, .int (nI f), .int (nI r)] lk ex σ (fun σ1 => σ1 = mWL (mWL σ 28 7 (atP2 F man c o f r).1) 28 8 (atP2 F man c o f r).2) := by
  obtain ⟨w1, w2, w3, w4, w5, w6⟩ := hf.2.2 f hfn
  have hn := hf.2.1
  have hA := w3 k0
  have ok : mOkP md_X0_attack := ok_at 9 (by decide) rfl
  refine mC_of (md := md_X0_attack) rfl (lt_at (by decide)) rfl ?_
  have tail : ∀ (cl df : Int64) (L3 L5 : Option Value), (atP2 F man c o f r) = (c ||| cl, if man = 1 then o ||| df else df) → mGo g l (d + 1) md_X0_attack (SH lk ex).length (mTot (SH lk ex)) (108, [some (.ref 28), some (.int (nI f)), some (.int (nI r)), L3, none, L5, none, some (.long cl), none, some (.long df), none], [], SH lk ex, σ) (fun r1 sp σ1 => r1 = none ∧ sp = SH lk ex ∧ σ1 = mWL (mWL σ 28 7 (atP2 F man c o f r).1) 28 8 (atP2 F man c o f r).2) := by
    intro cl df L3 L5 he
    rw [he]
    refine mGo_run (n := 400) ok rfl ?_
    rw [hcl, show (mWL σ 28 7 (c ||| cl)).1 28 4 = nI man from hman]
    refine mGo_if ok rfl (fun h => ?_) (fun h => ?_)
    · have e : man = 1 := (nI_eq (a := man) (b := 1) (by omega) (by omega)).mp h
      refine mGo_run (n := 400) ok rfl ?_
      rw [show (mWL σ 28 7 (c ||| cl)).2.1 28 6 = o by simp [WL_at, hop], if_pos e]
      exact mGo_ret ok rfl trivial (⟨rfl, rfl, rfl⟩)
    · have e : man ≠ 1 := fun z => h (by rw [z]; rfl)
      refine mGo_run (n := 400) ok rfl ?_
      rw [if_neg e]
      exact mGo_ret ok rfl trivial (⟨rfl, rfl, rfl⟩)
  have sw : ∀ sb : Int64, (2 ≤ aK F f → sb = bit (aB F f)) → mGo g l (d + 1) md_X0_attack (SH lk ex).length (mTot (SH lk ex)) (23, [some (.ref 28), some (.int (nI f)), some (.int (nI r)), some (.long (bit (aA F f))), none, none, none, none, none, none, none], [.long sb], SH lk ex, σ) (fun r1 sp σ1 => r1 = none ∧ sp = SH lk ex ∧ σ1 = mWL (mWL σ 28 7 (atP2 F man c o f r).1) 28 8 (atP2 F man c o f r).2) := by
    intro sb hsb
    refine mGo_run (n := 400) ok rfl ?_
    refine mGo_callP ok rfl (by omega) (c_kindOf (d := d) hf.2.1 hc hfn) ?_
    refine mGo_sw ok rfl ⟨fun h2 => ?_, fun h2 => ⟨fun h3 => ?_, fun h3 => ⟨fun h4 => ?_, fun h4 => ⟨fun h5 => ?_, fun h5 => ?_⟩⟩⟩⟩
    · have e1 : aK F f = 1 := (nI_eq (a := aK F f) (b := 1) (by omega) (by omega)).mp h2
      refine mGo_runS 108 (n := 400) ok rfl ?_
      exact tail _ _ _ _ (by simp [atP2, e1])
    · have e1 : aK F f = 2 := (nI_eq (a := aK F f) (b := 2) (by omega) (by omega)).mp h3
      refine mGo_run (n := 400) ok rfl ?_
      refine mGo_if ok rfl (fun h6 => ?_) (fun h6 => ?_)
      · have e2 : r = 0 := (nI_eq (a := r) (b := 0) (by omega) (by omega)).mp h6
        refine mGo_runS 108 (n := 400) ok rfl ?_
        exact tail _ _ _ _ (by simp [atP2, e1, e2])
      · have e2 : r ≠ 0 := fun z => h6 (by rw [z]; rfl)
        refine mGo_runS 108 (n := 400) ok rfl ?_
        exact tail _ _ _ _ (by rw [hsb (by omega)]; simp [atP2, e1, e2])
    · have e1 : aK F f = 3 := (nI_eq (a := aK F f) (b := 3) (by omega) (by omega)).mp h4
      refine mGo_runS 108 (n := 400) ok rfl ?_
      exact tail _ _ _ _ (by rw [hsb (by omega)]; simp [atP2, e1])
    · have e1 : aK F f = 4 := (nI_eq (a := aK F f) (b := 4) (by omega) (by omega)).mp h5
      refine mGo_runS 108 (n := 400) ok rfl ?_
      exact tail _ _ _ _ (by rw [hsb (by omega)]; simp [atP2, e1])
    · exfalso
      have n1 : aK F f ≠ 1 := fun z => h2 (by rw [z]; rfl)
      have n2 : aK F f ≠ 2 := fun z => h3 (by rw [z]; rfl)
      have n3 : aK F f ≠ 3 := fun z => h4 (by rw [z]; rfl)
      have n4 : aK F f ≠ 4 := fun z => h5 (by rw [z]; rfl)
      omega
  refine mGo_run (n := 400) ok rfl ?_
  refine mGo_callP ok rfl (by omega) (c_firstOf (d := d) hf.2.1 hc hfn) ?_
  rw [if_neg k0]
  refine mGo_callP ok rfl (by omega) (c_bitOf (d := d) (j := aA F f) (by omega)) ?_
  refine mGo_run (n := 400) ok rfl ?_
  refine mGo_callP ok rfl (by omega) (c_secondOf (d := d) hf.2.1 hc hfn) ?_
  by_cases k2 : aK F f < 2
  · rw [if_pos k2]
    refine mGo_callP ok rfl (by omega) (c_bitOf0 (d := d)) ?_
    exact sw 0 (fun z => by omega)
  · rw [if_neg k2]
    have := w4 (by omega)
    refine mGo_callP ok rfl (by omega) (c_bitOf (d := d) (j := aB F f) (by omega)) ?_
    exact sw _ (fun _ => rfl)
theorem c_answer28 (hf : fOk F) (hc : cF σ F) {c o : Int64} (hcl : σ.2.1 28 5 = c) (hop : σ.2.1 28 6 = o) {man : Nat} (hman : σ.1 28 4 = nI man) (hm1 : man ≤ 1) {ms : List (Nat × Nat)} (hb : bM σ 28 ms) (hl : ms.length ≤ 120) {i r : Nat} {q : Nat × Nat} (hq : ms[i]? = some q) (ho : mvOk F q) (hr : r < rpN F q) : mNV g l (d + 3) 7 [.ref 28, .int (nI i), .int (nI r)] lk ex σ (fun σ1 => σ1 = mWL (mWL σ 28 7 (rpP F man c o q r).1) 28 8 (rpP F man c o q r).2) := by
  have hi : i < ms.length := (List.getElem?_eq_some_iff.mp hq).1
  obtain ⟨b1, b2⟩ := hb.2 i q hq
  obtain ⟨o1, o2, o3⟩ := ho
  obtain ⟨w1, w2, w3, w4, w5, w6⟩ := hf.2.2 q.2 o1
  have hn := hf.2.1
  have ci : (nI i).toNatClampNeg = i := nI_clamp (by omega)
  have hin : vp_in (nI i) 120 := nI_in (by omega) (by omega)
  have hr2 : r < 4 := by
    unfold rpN at hr
    have a1 : ∀ k, atk k ≤ 2 := fun k => by unfold atk; split <;> (try split) <;> omega
    have := a1 (aK F q.2)
    have := a1 (aK F (aA F q.2))
    split at hr
    · omega
    · split at hr
      · omega
      · split at hr
        · omega
        · split at hr <;> omega
  have ok : mOkP md_X0_answer := ok_at 7 (by decide) rfl
  refine mC_of (md := md_X0_answer) rfl (lt_at (by decide)) rfl ?_
  refine mGo_run (n := 400) ok rfl ?_
  refine mGo_callP ok rfl (by omega) (c_hasMove128 (d := d) hb.1 hl hi) ?_
  refine mGo_run (n := 400) ok rfl ?_
  refine mGo_if ok rfl (fun h => ?_) (fun h => ?_)
  · exact absurd h (by decide)
  · refine mGo_run (n := 400) ok rfl ?_
    refine mGo_side ok rfl (hin) ?_
    rw [ci, b2]
    refine mGo_run (n := 400) ok rfl ?_
    refine mGo_side ok rfl (hin) ?_
    rw [ci, b1]
    refine mGo_run (n := 400) ok rfl ?_
    refine mGo_callP ok rfl (by omega) (c_firstOf (d := d) hf.2.1 hc o1) ?_
    refine mGo_run (n := 400) ok rfl ?_
    refine mGo_callP ok rfl (by omega) (c_secondOf (d := d) hf.2.1 hc o1) ?_
    refine mGo_run (n := 400) ok rfl ?_
    refine mGo_if ok rfl (fun h1 => ?_) (fun h1 => ?_)
    · have e : q.1 = 0 := (nI_eq (a := q.1) (b := 0) (by omega) (by omega)).mp h1
      have k0 : aK F q.2 ≠ 0 := fun z => by rw [rpN, if_pos e, z] at hr; exact absurd hr (by simp [atk])
      refine mGo_run (n := 400) ok rfl ?_
      refine mGo_callV ok rfl (by omega) (c_attack28 (d := d) hf hc hcl hop hman hm1 o1 k0 (by omega)) (fun σ1 hσ1 => ?_)
      refine mGo_run (n := 400) ok rfl ?_
      exact mGo_ret ok rfl trivial (⟨rfl, rfl, by rw [rpP, if_pos e]; exact hσ1⟩)
    · have e : q.1 ≠ 0 := fun z => h1 (by rw [z]; rfl)
      obtain ⟨k0, k2⟩ := o3 e
      have hA := w3 k0
      rw [if_neg k0]
      refine mGo_run (n := 400) ok rfl ?_
      refine mGo_if ok rfl (fun h2 => ?_) (fun h2 => ?_)
      · have e2 : q.1 = 2 := (nI_eq (a := q.1) (b := 2) (by omega) (by omega)).mp h2
        refine mGo_run (n := 400) ok rfl ?_
        refine mGo_callV ok rfl (by omega) (c_concede28 (d := d) hcl hop (f := aA F q.2) (by omega)) (fun σ1 hσ1 => ?_)
        refine mGo_run (n := 400) ok rfl ?_
        exact mGo_ret ok rfl trivial (⟨rfl, rfl, by rw [rpP, if_neg e, if_pos e2]; exact hσ1⟩)
      · have e2 : q.1 ≠ 2 := fun z => h2 (by rw [z]; rfl)
        refine mGo_run (n := 400) ok rfl ?_
        refine mGo_if ok rfl (fun h3 => ?_) (fun h3 => ?_)
        · have e3 : q.1 = 3 := (nI_eq (a := q.1) (b := 3) (by omega) (by omega)).mp h3
          have k22 := k2.mp (Or.inr e3)
          have := w4 (by omega)
          rw [if_neg (by omega)]
          refine mGo_run (n := 400) ok rfl ?_
          refine mGo_callV ok rfl (by omega) (c_concede28 (d := d) hcl hop (f := aB F q.2) (by omega)) (fun σ1 hσ1 => ?_)
          refine mGo_run (n := 400) ok rfl ?_
          exact mGo_ret ok rfl trivial (⟨rfl, rfl, by rw [rpP, if_neg e, if_neg e2, if_pos e3]; exact hσ1⟩)
        · have e3 : q.1 ≠ 3 := fun z => h3 (by rw [z]; rfl)
          have n2 : aK F q.2 ≠ 2 := fun z => by rcases k2.mpr z with z | z <;> omega
          refine mGo_run (n := 400) ok rfl ?_
          refine mGo_callP ok rfl (by omega) (c_kindOf (d := d) hf.2.1 hc o1) ?_
          refine mGo_run (n := 400) ok rfl ?_
          refine mGo_if ok rfl (fun h4 => ?_) (fun h4 => ?_)
          · have e4 : aK F q.2 = 3 := (nI_eq (a := aK F q.2) (b := 3) (by omega) (by omega)).mp h4
            have := w4 (by omega)
            rw [if_neg (by omega)]
            refine mGo_run (n := 400) ok rfl ?_
            refine mGo_if ok rfl (fun h5 => ?_) (fun h5 => ?_)
            · have e5 : r = 0 := (nI_eq (a := r) (b := 0) (by omega) (by omega)).mp h5
              refine mGo_run (n := 400) ok rfl ?_
              refine mGo_callV ok rfl (by omega) (c_concede28 (d := d) hcl hop (f := aA F q.2) (by omega)) (fun σ1 hσ1 => ?_)
              refine mGo_run (n := 400) ok rfl ?_
              exact mGo_ret ok rfl trivial (⟨rfl, rfl, by rw [rpP, if_neg e, if_neg e2, if_neg e3, if_pos e4, if_pos e5]; exact hσ1⟩)
            · have e5 : r ≠ 0 := fun z => h5 (by rw [z]; rfl)
              refine mGo_run (n := 400) ok rfl ?_
              refine mGo_callV ok rfl (by omega) (c_concede28 (d := d) hcl hop (f := aB F q.2) (by omega)) (fun σ1 hσ1 => ?_)
              refine mGo_run (n := 400) ok rfl ?_
              exact mGo_ret ok rfl trivial (⟨rfl, rfl, by rw [rpP, if_neg e, if_neg e2, if_neg e3, if_pos e4, if_neg e5]; exact hσ1⟩)
          · have e4 : aK F q.2 ≠ 3 := fun z => h4 (by rw [z]; rfl)
            have a1 : atk (aK F (aA F q.2)) ≤ 2 := by unfold atk; split <;> (try split) <;> omega
            refine mGo_run (n := 400) ok rfl ?_
            refine mGo_callP ok rfl (by omega) (c_attacksOn (d := d) hf hc (j := aA F q.2) (by omega)) ?_
            refine mGo_run (n := 400) ok rfl ?_
            refine mGo_if ok rfl (fun h5 => ?_) (fun h5 => ?_)
            · have e5 : ¬ r < atk (aK F (aA F q.2)) := fun z => by
                have := (nI_leI (a := atk (aK F (aA F q.2))) (b := r) (by omega) (by omega)).mp h5
                omega
              have n1 : aK F q.2 ≠ 1 := fun z => by
                rw [rpN, if_neg e, if_pos z] at hr
                exact e5 hr
              have := w4 (by omega)
              rw [if_neg (by omega)]
              refine mGo_run (n := 400) ok rfl ?_
              refine mGo_callV ok rfl (by omega) (c_concede28 (d := d) hcl hop (f := aB F q.2) (by omega)) (fun σ1 hσ1 => ?_)
              refine mGo_run (n := 400) ok rfl ?_
              exact mGo_ret ok rfl trivial (⟨rfl, rfl, by rw [rpP, if_neg e, if_neg e2, if_neg e3, if_neg e4, if_neg e5]; exact hσ1⟩)
            · have e5 : r < atk (aK F (aA F q.2)) := by
                rcases Nat.lt_or_ge r (atk (aK F (aA F q.2))) with z | z
                · exact z
                · exact absurd (nI_le z (by omega)) h5
              have ka : aK F (aA F q.2) ≠ 0 := fun z => by rw [z] at e5; exact absurd e5 (by simp [atk])
              refine mGo_run (n := 400) ok rfl ?_
              refine mGo_callV ok rfl (by omega) (c_attack28 (d := d) hf hc hcl hop hman hm1 (f := aA F q.2) (by omega) ka (by omega)) (fun σ1 hσ1 => ?_)
              refine mGo_run (n := 400) ok rfl ?_
              exact mGo_ret ok rfl trivial (⟨rfl, rfl, by rw [rpP, if_neg e, if_neg e2, if_neg e3, if_neg e4, if_pos e5]; exact hσ1⟩)
end T
end
section
/-! the reference: moves and replies -/
/-- the reference's position -/
def mQ (σ : mHp) (c o : Int64) : Prop := σ.2.1 48 15 = c ∧ σ.2.1 48 16 = o
/-- the reference's move -/
def mV (σ : mHp) (q : Nat × Nat) : Prop := σ.1 48 18 = nI q.1 ∧ σ.1 48 19 = nI q.2
theorem mGo_ifI {g : mG} {l : Launch} {d : Nat} {md : mMd} {n0 t0 : Nat} {Post : Option Value → mSh → mHp → Prop} {c e : Prop} {cf cf1 cf2 : mCf} (hok : mOkP md) (h : mBnF md cf = some (c, cf1, cf2)) (hc : c ↔ e) (k1 : e → mGo g l d md n0 t0 cf1 Post) (k2 : ¬ e → mGo g l d md n0 t0 cf2 Post) : mGo g l d md n0 t0 cf Post := mGo_if hok h (fun z => k1 (hc.mp z)) (fun z => k2 (fun y => z (hc.mpr y)))
/-- the test of a bit that the reference makes -/
theorem lgb {x : Int64} {i : Nat} (hi : i < 64) : lg_cmp (x >>> ((nI i).toInt64 &&& 63) &&& 1) 1 = 0 ↔ tb x i = true := lg0.trans (shr_one hi)
theorem canK {F : aF} (hf : fOk F) (c : Int64) {f : Nat} (hn : f < aN F) : canC c f = (!decide (aK F f = 0) || tb c f) := by
  have w := (hf.2.2 f hn).1
  unfold canC
  by_cases h : f < 4
  · have e := w.mpr h
    simp [e, show ¬ 4 ≤ f by omega]
  · have e : ¬ aK F f = 0 := fun z => h (w.mp z)
    simp [e, show 4 ≤ f by omega]
theorem or0 (c : Int64) : c ||| 0 = c := by
  apply tb_ext
  intro j hj
  rw [tb_or, tb_zero, Bool.or_false]
section T
variable {g : mG} {l : Launch} {d : Nat} {lk : Nat} {ex : mSh} {σ : mHp} {F : aF}
theorem m_attacksOn (hf : fOk F) (hm : mF σ F) {j : Nat} (hj : j < aN F) : mNP g l d 150 [.ref 48, .int (nI j)] lk ex σ (.int (nI (atk (aK F j)))) := by
  obtain ⟨w1, w2, w3, w4, w5, w6⟩ := hf.2.2 j hj
  obtain ⟨m1, m2, m3⟩ := hm.2 j hj
  have hn := hf.2.1
  have ok : mOkP md_X9_attacksOn := ok_at 150 (by decide) rfl
  refine mC_of (md := md_X9_attacksOn) rfl (lt_at (by decide)) rfl ?_
  refine mGo_run (n := 400) ok rfl ?_
  refine mGo_side ok rfl (nI_in (by omega) (by omega)) ?_
  rw [nI_clamp (n := j) (by omega), m1]
  refine mGo_ifI ok rfl (nI_eq (a := aK F j) (b := 0) (by omega) (by omega)) (fun h => ?_) (fun h => ?_)
  · refine mGo_run (n := 400) ok rfl ?_
    exact mGo_ret ok rfl trivial (⟨by rw [atk, if_pos h]; rfl, rfl, rfl⟩)
  · refine mGo_run (n := 400) ok rfl ?_
    refine mGo_side ok rfl (nI_in (by omega) (by omega)) ?_
    rw [nI_clamp (n := j) (by omega), m1]
    refine mGo_run (n := 400) ok rfl ?_
    refine mGo_ifI ok rfl (nI_eq (a := aK F j) (b := 2) (by omega) (by omega)) (fun h1 => ?_) (fun h1 => ?_)
    · refine mGo_run (n := 400) ok rfl ?_
      exact mGo_ret ok rfl trivial (⟨by rw [atk, if_neg h, if_pos h1]; rfl, rfl, rfl⟩)
    · refine mGo_run (n := 400) ok rfl ?_
      exact mGo_ret ok rfl trivial (⟨by rw [atk, if_neg h, if_neg h1]; rfl, rfl, rfl⟩)
theorem m_attack (hf : fOk F) (hm : mF σ F) {c o : Int64} (hq : mQ σ c o) {man : Nat} (hman : σ.1 48 17 = nI man) (hm1 : man ≤ 1) {f r : Nat} (hfn : f < aN F) (k0 : aK F f ≠ 0) (hr : r < 2 ^ 31) : mNV g l d 151 [.ref 48, .int (nI f), .int (nI r)] lk ex σ (fun σ1 => fr 48 49 σ σ1 ∧ fm [15, 16] σ σ1 ∧ mQ σ1 (atP2 F man c o f r).1 (atP2 F man c o f r).2) := by
  obtain ⟨w1, w2, w3, w4, w5, w6⟩ := hf.2.2 f hfn
  obtain ⟨m1, m2, m3⟩ := hm.2 f hfn
  obtain ⟨q1, q2⟩ := hq
  have hn := hf.2.1
  have ok : mOkP md_X9_attack := ok_at 151 (by decide) rfl
  refine mC_of (md := md_X9_attack) rfl (lt_at (by decide)) rfl ?_
  have tail : ∀ (τ : mHp) (df : Int64), fr 48 49 σ τ → fm [15, 16] σ τ → τ.2.1 48 15 = (atP2 F man c o f r).1 → τ.2.1 48 16 = o → (atP2 F man c o f r).2 = (if man = 1 then o ||| df else df) → mGo g l d md_X9_attack (SH lk ex).length (mTot (SH lk ex)) (128, [some (.ref 48), some (.int (nI f)), some (.int (nI r)), some (.long df), none], [], SH lk ex, τ) (fun r1 sp σ1 => r1 = none ∧ sp = SH lk ex ∧ (fr 48 49 σ σ1 ∧ fm [15, 16] σ σ1 ∧ mQ σ1 (atP2 F man c o f r).1 (atP2 F man c o f r).2)) := by
    intro τ df t1 t2 t3 t4 t5
    have hmt : τ.1 48 17 = nI man := by rw [(t2 17 (by decide)).1]; exact hman
    have fin : ∀ x : Int64, x = (atP2 F man c o f r).2 → fr 48 49 σ (mWL τ 48 16 x) ∧ fm [15, 16] σ (mWL τ 48 16 x) ∧ mQ (mWL τ 48 16 x) (atP2 F man c o f r).1 (atP2 F man c o f r).2 := fun x hx => ⟨t1.WL (by decide) (by decide), t2.WL (fun _ => by decide), by simp [WL_at, t3], by simp [WL_at, hx]⟩
    refine mGo_run (n := 400) ok rfl ?_
    rw [hmt]
    refine mGo_ifI ok rfl (nI_eq (a := man) (b := 0) (by omega) (by omega)) (fun h => ?_) (fun h => ?_)
    · refine mGo_run (n := 400) ok rfl ?_
      exact mGo_ret ok rfl trivial (⟨rfl, rfl, fin _ (by rw [t5, if_neg (by omega)])⟩)
    · refine mGo_run (n := 400) ok rfl ?_
      rw [t4]
      exact mGo_ret ok rfl trivial (⟨rfl, rfl, fin _ (by rw [t5, if_pos (by omega)])⟩)
  refine mGo_run (n := 400) ok rfl ?_
  refine mGo_side ok rfl (nI_in (by omega) (by omega)) ?_
  rw [nI_clamp (n := f) (by omega), m1]
  refine mGo_sw ok rfl ⟨fun h2 => ?_, fun h2 => ⟨fun h3 => ?_, fun h3 => ⟨fun h4 => ?_, fun h4 => ?_⟩⟩⟩
  · have e1 : aK F f = 1 := (nI_eq (a := aK F f) (b := 1) (by omega) (by omega)).mp h2
    refine mGo_run (n := 400) ok rfl ?_
    refine mGo_side ok rfl (nI_in (by omega) (by omega)) ?_
    rw [nI_clamp (n := f) (by omega), m2]
    refine mGo_runS 128 (n := 400) ok rfl ?_
    rw [q1]
    exact tail _ _ (fr.refl.WL (by decide) (by decide)) (fm.refl.WL (fun _ => by decide)) (by simp [WL_at, atP2, e1, bit]) (by simp [WL_at, q2]) (by simp [atP2, e1])
  · have e1 : aK F f = 2 := (nI_eq (a := aK F f) (b := 2) (by omega) (by omega)).mp h3
    refine mGo_run (n := 400) ok rfl ?_
    refine mGo_ifI ok rfl (nI_eq (a := r) (b := 0) (by omega) (by omega)) (fun e2 => ?_) (fun e2 => ?_)
    · refine mGo_run (n := 400) ok rfl ?_
      refine mGo_side ok rfl (nI_in (by omega) (by omega)) ?_
      rw [nI_clamp (n := f) (by omega), m2]
      refine mGo_runS 128 (n := 400) ok rfl ?_
      exact tail _ _ fr.refl fm.refl (by simp [atP2, e1, q1]) q2 (by simp [atP2, e1, e2, bit])
    · refine mGo_run (n := 400) ok rfl ?_
      refine mGo_side ok rfl (nI_in (by omega) (by omega)) ?_
      rw [nI_clamp (n := f) (by omega), m3]
      refine mGo_runS 128 (n := 400) ok rfl ?_
      exact tail _ _ fr.refl fm.refl (by simp [atP2, e1, q1]) q2 (by simp [atP2, e1, e2, bit])
  · have e1 : aK F f = 3 := (nI_eq (a := aK F f) (b := 3) (by omega) (by omega)).mp h4
    refine mGo_run (n := 400) ok rfl ?_
    refine mGo_side ok rfl (nI_in (by omega) (by omega)) ?_
    rw [nI_clamp (n := f) (by omega), m2]
    refine mGo_run (n := 400) ok rfl ?_
    refine mGo_side ok rfl (nI_in (by omega) (by omega)) ?_
    rw [nI_clamp (n := f) (by omega), m3]
    refine mGo_runS 128 (n := 400) ok rfl ?_
    exact tail _ _ fr.refl fm.refl (by simp [atP2, e1, q1]) q2 (by simp [atP2, e1, bit])
  · have n1 : aK F f ≠ 1 := fun z => h2 (by rw [z]; rfl)
    have n2 : aK F f ≠ 2 := fun z => h3 (by rw [z]; rfl)
    have n3 : aK F f ≠ 3 := fun z => h4 (by rw [z]; rfl)
    have e1 : aK F f = 4 := by omega
    refine mGo_run (n := 400) ok rfl ?_
    refine mGo_side ok rfl (nI_in (by omega) (by omega)) ?_
    rw [nI_clamp (n := f) (by omega), m2]
    refine mGo_run (n := 400) ok rfl ?_
    refine mGo_side ok rfl (nI_in (by omega) (by omega)) ?_
    rw [nI_clamp (n := f) (by omega), show (mWL σ 48 15 (σ.2.1 48 15 ||| (1 : Int64) <<< ((nI (aA F f)).toInt64 &&& 63))).1 51 f = nI (aB F f) from m3]
    refine mGo_runS 128 (n := 400) ok rfl ?_
    rw [q1]
    exact tail _ _ (fr.refl.WL (by decide) (by decide)) (fm.refl.WL (fun _ => by decide)) (by simp [WL_at, atP2, e1, bit]) (by simp [WL_at, q2]) (by simp [atP2, e1, bit])
theorem m_mayClaim (hf : fOk F) (hm : mF σ F) {c : Int64} (hq : σ.2.1 48 15 = c) {f : Nat} (hfn : f < aN F) : mNP g l d 152 [.ref 48, .int (nI f)] lk ex σ (.int (if canC c f = true then 1 else 0)) := by
  obtain ⟨w1, w2, w3, w4, w5, w6⟩ := hf.2.2 f hfn
  obtain ⟨m1, m2, m3⟩ := hm.2 f hfn
  have hn := hf.2.1
  have ok : mOkP md_X9_mayClaim := ok_at 152 (by decide) rfl
  refine mC_of (md := md_X9_mayClaim) rfl (lt_at (by decide)) rfl ?_
  refine mGo_run (n := 400) ok rfl ?_
  refine mGo_side ok rfl (nI_in (by omega) (by omega)) ?_
  rw [nI_clamp (n := f) (by omega), m1]
  rw [canK hf c hfn]
  refine mGo_ifI ok rfl (nI_eq (a := aK F f) (b := 0) (by omega) (by omega)) (fun h => ?_) (fun h => ?_)
  · refine mGo_run (n := 400) ok rfl ?_
    rw [hq]
    refine mGo_ifI ok rfl (lgb (x := c) (i := f) (by omega)) (fun h1 => ?_) (fun h1 => ?_)
    · refine mGo_run (n := 400) ok rfl ?_
      exact mGo_ret ok rfl (Or.inr rfl) (⟨by simp [h1], rfl, rfl⟩)
    · refine mGo_run (n := 400) ok rfl ?_
      exact mGo_ret ok rfl (Or.inl rfl) (⟨by simp [h, h1], rfl, rfl⟩)
  · refine mGo_run (n := 400) ok rfl ?_
    exact mGo_ret ok rfl (Or.inr rfl) (⟨by simp [h], rfl, rfl⟩)
/-- what findMove does with a number: it finds that move, or counts them all -/
def fmP (F : aF) (c o : Int64) (v : Int32) (σ : mHp) (r : Option Value) (σ1 : mHp) : Prop := (∃ i q, v = nI i ∧ (mvs F c o)[i]? = some q ∧ r = some (.int (nI i)) ∧ σ1 = mWI (mWI σ 48 18 (nI q.1)) 48 19 (nI q.2)) ∨ ((∀ i, i < (mvs F c o).length → v ≠ nI i) ∧ r = some (.int (nI (mvs F c o).length)) ∧ σ1 = σ)
set_option maxHeartbeats 1000000 in
theorem m_findMove (hf : fOk F) (hm : mF σ F) {c o : Int64} (hq : mQ σ c o) (v : Int32) : mC g l (d + 1) 153 [.ref 48, .int v] (SH lk ex) σ (fun r sp σ1 => sp = SH lk ex ∧ fmP F c o v σ r σ1) := by
  obtain ⟨q1, q2⟩ := hq
  have hn := hf.2.1
  have h4n := hf.1
  have hml := mvs_len hf c o
  have len1 := fun m k => clM_len c o m k
  have hmN := hm.1
  have ok : mOkP md_X9_findMove := ok_at 153 (by decide) rfl
  refine mC_of (md := md_X9_findMove) rfl (lt_at (by decide)) rfl ?_
  have two : ∀ m k : Nat, k + m = aN F → 4 ≤ k → ∀ (pre : List (Nat × Nat)) (L4 L5 : Option Value), pre ++ atM F c k m = mvs F c o → (∀ i, i < pre.length → v ≠ nI i) → mGo g l (d + 1) md_X9_findMove (SH lk ex).length (mTot (SH lk ex)) (61, [some (.ref 48), some (.int v), some (.int (nI pre.length)), some (.int (nI k)), L4, L5], [], SH lk ex, σ) (fun r sp σ1 => sp = SH lk ex ∧ fmP F c o v σ r σ1) := by
    intro m
    induction m with
    | zero =>
      intro k hk h4 pre L4 L5 hp hv
      rw [show atM F c k 0 = [] from rfl, List.append_nil] at hp
      refine mGo_run (n := 400) ok rfl ?_
      rw [hmN]
      refine mGo_ifI ok rfl (nI_leI (a := aN F) (b := k) (by omega) (by omega)) (fun h => ?_) (fun h => ?_)
      · refine mGo_run (n := 400) ok rfl ?_
        exact mGo_ret ok rfl trivial (⟨rfl, Or.inr ⟨fun i hi => hv i (by rw [hp]; exact hi), by rw [hp], rfl⟩⟩)
      · omega
    | succ m ih =>
      intro k hk h4 pre L4 L5 hp hv
      have hkn : k < aN F := by omega
      obtain ⟨w1, w2, w3, w4, w5, w6⟩ := hf.2.2 k hkn
      obtain ⟨m1, m2, m3⟩ := hm.2 k hkn
      have k0 : aK F k ≠ 0 := fun z => by have := w1.mp z; omega
      have hpl : pre.length ≤ 112 := by have := congrArg List.length hp; simp at this; omega
      have next : ∀ (pre1 : List (Nat × Nat)) (L4 L5 : Option Value), pre1 ++ atM F c (k + 1) m = mvs F c o → (∀ i, i < pre1.length → v ≠ nI i) → mGo g l (d + 1) md_X9_findMove (SH lk ex).length (mTot (SH lk ex)) (188, [some (.ref 48), some (.int v), some (.int (nI pre1.length)), some (.int (nI k)), L4, L5], [], SH lk ex, σ) (fun r sp σ1 => sp = SH lk ex ∧ fmP F c o v σ r σ1) := by
        intro pre1 L4 L5 h1 h2
        refine mGo_runS 61 (n := 400) ok rfl ?_
        rw [nI_1]
        exact ih (k + 1) (by omega) (by omega) pre1 L4 L5 h1 h2
      have hit : ∀ (L4 : Option Value) (w : Nat) (as : List (Nat × Nat)), atK F c k = as → as.length = w → tb c k = true → (w = 1 → as = [(1, k)]) → (w ≠ 1 → as = [(2, k), (3, k)]) → mGo g l (d + 1) md_X9_findMove (SH lk ex).length (mTot (SH lk ex)) (144, [some (.ref 48), some (.int v), some (.int (nI pre.length)), some (.int (nI k)), L4, some (.int (nI w))], [], SH lk ex, σ) (fun r sp σ1 => sp = SH lk ex ∧ fmP F c o v σ r σ1) := by
        intro L4 w as ha hl ht a1 a2
        have hw : w = 1 ∨ w = 2 := by
          by_cases z : w = 1
          · exact Or.inl z
          · rw [a2 z] at hl; exact Or.inr hl.symm
        simp only [atM, ht, if_true, ha] at hp
        rw [← List.append_assoc] at hp
        have skip : (∀ i, i < (pre ++ as).length → v ≠ nI i) → mGo g l (d + 1) md_X9_findMove (SH lk ex).length (mTot (SH lk ex)) (183, [some (.ref 48), some (.int v), some (.int (nI pre.length)), some (.int (nI k)), L4, some (.int (nI w))], [], SH lk ex, σ) (fun r sp σ1 => sp = SH lk ex ∧ fmP F c o v σ r σ1) := by
          intro hv2
          refine mGo_runS 188 (n := 400) ok rfl ?_
          rw [nI_add, show pre.length + w = (pre ++ as).length by simp [hl]]
          exact next _ _ _ hp hv2
        refine mGo_run (n := 400) ok rfl ?_
        refine mGo_if ok rfl (fun h1 => ?_) (fun h1 => ?_)
        · exact skip (fun i hi => by
            simp only [List.length_append] at hi
            rcases Nat.lt_or_ge i pre.length with z | z
            · exact hv i z
            · intro e
              subst e
              exact absurd h1 (nI_nlt z (by omega)))
        · refine mGo_run (n := 400) ok rfl ?_
          rw [nI_add]
          refine mGo_if ok rfl (fun h2 => ?_) (fun h2 => ?_)
          · exact skip (fun i hi => by
              simp only [List.length_append] at hi
              intro e
              subst e
              have := (nI_leI (a := pre.length + w) (b := i) (by omega) (by omega)).mp h2
              omega)
          · obtain ⟨i, hi, rfl⟩ := nI_of (x := v) (fun z => h1 (Int32.lt_of_lt_of_le z (nI_pos' (by omega))))
            have i1 : pre.length ≤ i := by
              rcases Nat.lt_or_ge i pre.length with z | z
              · exact absurd (nI_lt z (by omega)) h1
              · exact z
            have i2 : i < pre.length + w := by
              rcases Nat.lt_or_ge i (pre.length + w) with z | z
              · exact z
              · exact absurd (nI_le z hi) h2
            have at1 : (mvs F c o)[i]? = as[i - pre.length]? := by
              rw [← hp, List.getElem?_append_left (by simp; omega), List.getElem?_append_right i1]
            refine mGo_run (n := 400) ok rfl ?_
            refine mGo_ifI ok rfl (nI_eq (a := w) (b := 1) (by omega) (by omega)) (fun e => ?_) (fun e => ?_)
            · refine mGo_run (n := 400) ok rfl ?_
              rw [a1 e] at at1
              have e3 : i - pre.length = 0 := by omega
              rw [e3] at at1
              exact mGo_ret ok rfl trivial (⟨rfl, Or.inl ⟨i, (1, k), rfl, at1, rfl, rfl⟩⟩)
            · refine mGo_run (n := 400) ok rfl ?_
              rw [a2 e] at at1
              have e4 : (2 : Int32) + nI i - nI pre.length = nI (2 + (i - pre.length)) := by
                rw [show (2 : Int32) = nI 2 from rfl, nI_add, pk_sub (by omega)]
                congr 1
                omega
              rw [e4]
              have e3 : i - pre.length = 0 ∨ i - pre.length = 1 := by omega
              rcases e3 with e3 | e3
              · rw [e3] at at1 ⊢
                exact mGo_ret ok rfl trivial (⟨rfl, Or.inl ⟨i, (2, k), rfl, at1, rfl, rfl⟩⟩)
              · rw [e3] at at1 ⊢
                exact mGo_ret ok rfl trivial (⟨rfl, Or.inl ⟨i, (3, k), rfl, at1, rfl, rfl⟩⟩)
      have body : ∀ (b : Int32), (b = 0 ↔ ¬ (aK F k = 2 ∨ aK F k = 3)) → mGo g l (d + 1) md_X9_findMove (SH lk ex).length (mTot (SH lk ex)) (94, [some (.ref 48), some (.int v), some (.int (nI pre.length)), some (.int (nI k)), L4, L5], [.int b], SH lk ex, σ) (fun r sp σ1 => sp = SH lk ex ∧ fmP F c o v σ r σ1) := by
        intro b hb
        have go : aK F k = 2 ∨ aK F k = 3 ∨ canC c (aA F k) = true → tb c k = true → mGo g l (d + 1) md_X9_findMove (SH lk ex).length (mTot (SH lk ex)) (127, [some (.ref 48), some (.int v), some (.int (nI pre.length)), some (.int (nI k)), some (.int b), L5], [], SH lk ex, σ) (fun r sp σ1 => sp = SH lk ex ∧ fmP F c o v σ r σ1) := by
          intro hh ht
          refine mGo_run (n := 400) ok rfl ?_
          refine mGo_side ok rfl (nI_in (by omega) (by omega)) ?_
          rw [nI_clamp (n := k) (by omega), m1]
          refine mGo_run (n := 400) ok rfl ?_
          refine mGo_ifI ok rfl (nI_eq (a := aK F k) (b := 2) (by omega) (by omega)) (fun e => ?_) (fun e => ?_)
          · refine mGo_runS 144 (n := 400) ok rfl ?_
            exact hit _ 2 [(2, k), (3, k)] (by rw [atK, if_pos e]) rfl ht (fun z => by omega) (fun _ => rfl)
          · refine mGo_runS 144 (n := 400) ok rfl ?_
            exact hit _ 1 [(1, k)] (by rw [atK, if_neg e, if_pos (by rcases hh with z | z; exact absurd z e; exact z)]) rfl ht (fun _ => rfl) (fun z => absurd rfl z)
        refine mGo_run (n := 400) ok rfl ?_
        rw [q1]
        refine mGo_ifI ok rfl (lgb (x := c) (i := k) (by omega)) (fun ht => ?_) (fun ht => ?_)
        · refine mGo_run (n := 400) ok rfl ?_
          refine mGo_ifI ok rfl (hb) (fun hc2 => ?_) (fun hc2 => ?_)
          · refine mGo_run (n := 400) ok rfl ?_
            refine mGo_side ok rfl (nI_in (by omega) (by omega)) ?_
            rw [nI_clamp (n := k) (by omega), m2]
            refine mGo_callP ok rfl (by omega) (m_mayClaim (d := d) hf hm q1 (f := aA F k) (by have := w3 k0; omega)) ?_
            refine mGo_if ok rfl (fun h2 => ?_) (fun h2 => ?_)
            · have e : ¬ canC c (aA F k) = true := fun z => by rw [if_pos z] at h2; exact absurd h2 (by decide)
              simp only [atM, ht, if_true] at hp
              rw [atK, if_neg (fun z => hc2 (Or.inl z)), if_neg (by rintro (z | z); exact hc2 (Or.inr z); exact e z), List.nil_append] at hp
              exact next pre _ _ hp hv
            · have e : canC c (aA F k) = true := by
                by_cases z : canC c (aA F k) = true
                · exact z
                · rw [if_neg z] at h2; exact absurd rfl h2
              exact go (Or.inr (Or.inr e)) ht
          · exact go (by
              have : aK F k = 2 ∨ aK F k = 3 := Classical.byContradiction hc2
              rcases this with z | z
              · exact Or.inl z
              · exact Or.inr (Or.inl z)) ht
        · have e : tb c k = false := by simpa using ht
          simp only [atM, e] at hp
          exact next pre _ _ (by simpa using hp) hv
      refine mGo_run (n := 400) ok rfl ?_
      rw [hmN]
      refine mGo_ifI ok rfl (nI_leI (a := aN F) (b := k) (by omega) (by omega)) (fun h => ?_) (fun h => ?_)
      · omega
      · refine mGo_run (n := 400) ok rfl ?_
        refine mGo_side ok rfl (nI_in (by omega) (by omega)) ?_
        rw [nI_clamp (n := k) (by omega), m1]
        refine mGo_run (n := 400) ok rfl ?_
        refine mGo_ifI ok rfl (nI_eq (a := aK F k) (b := 2) (by omega) (by omega)) (fun h1 => ?_) (fun h1 => ?_)
        · refine mGo_runS 94 (n := 400) ok rfl ?_
          exact body 1 ⟨fun z => absurd z (by decide), fun z => absurd (Or.inl h1) z⟩
        · refine mGo_run (n := 400) ok rfl ?_
          refine mGo_side ok rfl (nI_in (by omega) (by omega)) ?_
          rw [nI_clamp (n := k) (by omega), m1]
          refine mGo_run (n := 400) ok rfl ?_
          refine mGo_ifI ok rfl (nI_eq (a := aK F k) (b := 3) (by omega) (by omega)) (fun h2 => ?_) (fun h2 => ?_)
          · refine mGo_runS 94 (n := 400) ok rfl ?_
            exact body 1 ⟨fun z => absurd z (by decide), fun z => absurd (Or.inr h2) z⟩
          · refine mGo_runS 94 (n := 400) ok rfl ?_
            exact body 0 ⟨fun _ => by rintro (z | z); exact h1 z; exact h2 z, fun _ => rfl⟩
  have one : ∀ m k : Nat, k + m = aN F → ∀ (pre : List (Nat × Nat)), pre ++ clM c o k m = clM c o 0 (aN F) → (∀ i, i < pre.length → v ≠ nI i) → mGo g l (d + 1) md_X9_findMove (SH lk ex).length (mTot (SH lk ex)) (4, [some (.ref 48), some (.int v), some (.int (nI pre.length)), some (.int (nI k)), none, none], [], SH lk ex, σ) (fun r sp σ1 => sp = SH lk ex ∧ fmP F c o v σ r σ1) := by
    intro m
    induction m with
    | zero =>
      intro k hk pre hp hv
      rw [show clM c o k 0 = [] from rfl, List.append_nil] at hp
      refine mGo_run (n := 400) ok rfl ?_
      rw [hmN]
      refine mGo_ifI ok rfl (nI_leI (a := aN F) (b := k) (by omega) (by omega)) (fun h => ?_) (fun h => ?_)
      · refine mGo_runS 61 (n := 400) ok rfl ?_
        exact two (aN F - 4) 4 (by omega) (by omega) pre _ _ (by rw [hp]; rfl) hv
      · omega
    | succ m ih =>
      intro k hk pre hp hv
      have hkn : k < aN F := by omega
      have hpl : pre.length ≤ 40 := by have := congrArg List.length hp; have := len1 (aN F) 0; simp at *; omega
      have next : ∀ (pre1 : List (Nat × Nat)), pre1 ++ clM c o (k + 1) m = clM c o 0 (aN F) → (∀ i, i < pre1.length → v ≠ nI i) → mGo g l (d + 1) md_X9_findMove (SH lk ex).length (mTot (SH lk ex)) (53, [some (.ref 48), some (.int v), some (.int (nI pre1.length)), some (.int (nI k)), none, none], [], SH lk ex, σ) (fun r sp σ1 => sp = SH lk ex ∧ fmP F c o v σ r σ1) := by
        intro pre1 h1 h2
        refine mGo_runS 4 (n := 400) ok rfl ?_
        rw [nI_1]
        exact ih (k + 1) (by omega) pre1 h1 h2
      refine mGo_run (n := 400) ok rfl ?_
      rw [hmN]
      refine mGo_ifI ok rfl (nI_leI (a := aN F) (b := k) (by omega) (by omega)) (fun h => ?_) (fun h => ?_)
      · omega
      · refine mGo_run (n := 400) ok rfl ?_
        rw [q2]
        refine mGo_ifI ok rfl (lgb (x := o) (i := k) (by omega)) (fun ht => ?_) (fun ht => ?_)
        · refine mGo_run (n := 400) ok rfl ?_
          refine mGo_callP ok rfl (by omega) (m_mayClaim (d := d) hf hm q1 (f := k) (by omega)) ?_
          refine mGo_if ok rfl (fun h2 => ?_) (fun h2 => ?_)
          · have e : ¬ canC c k = true := fun z => by rw [if_pos z] at h2; exact absurd h2 (by decide)
            simp only [clM] at hp
            rw [if_neg (fun z => e z.2), List.nil_append] at hp
            exact next pre hp hv
          · have e : canC c k = true := by
              by_cases z : canC c k = true
              · exact z
              · rw [if_neg z] at h2; exact absurd rfl h2
            simp only [clM] at hp
            rw [if_pos ⟨ht, e⟩, ← List.append_assoc] at hp
            refine mGo_run (n := 400) ok rfl ?_
            refine mGo_if ok rfl (fun h3 => ?_) (fun h3 => ?_)
            · have at1 : (mvs F c o)[pre.length]? = some (0, k) := by
                rw [mvs, ← hp, List.append_assoc, List.append_assoc, List.getElem?_append_right (Nat.le_refl _)]
                simp
              refine mGo_run (n := 400) ok rfl ?_
              exact mGo_ret ok rfl trivial (⟨rfl, Or.inl ⟨pre.length, (0, k), h3.symm, at1, rfl, rfl⟩⟩)
            · refine mGo_runS 53 (n := 400) ok rfl ?_
              rw [nI_1, show pre.length + 1 = (pre ++ [(0, k)]).length by simp]
              exact next _ hp (fun i hi => by
                simp only [List.length_append, List.length_singleton] at hi
                rcases Nat.lt_or_ge i pre.length with z | z
                · exact hv i z
                · have : i = pre.length := by omega
                  subst this
                  exact fun y => h3 y.symm)
        · have e : tb o k = false := by simpa using ht
          simp only [clM] at hp
          rw [if_neg (fun z => ht z.1), List.nil_append] at hp
          exact next pre hp hv
  refine mGo_runS 4 (n := 400) ok rfl ?_
  exact one (aN F) 0 (by omega) [] rfl (fun i hi => by simp at hi)
end T
end
section
/-! the reference: is it a move; replies -/
section T
variable {g : mG} {l : Launch} {d : Nat} {lk : Nat} {ex : mSh} {σ : mHp} {F : aF}
theorem m_find1 (hf : fOk F) (hm : mF σ F) {c o : Int64} (hq : mQ σ c o) {i : Nat} {q : Nat × Nat} (hi : (mvs F c o)[i]? = some q) : mNR g l (d + 1) 153 [.ref 48, .int (nI i)] lk ex σ (.int (nI i)) (fun σ1 => σ1 = mWI (mWI σ 48 18 (nI q.1)) 48 19 (nI q.2)) := by
  have hil := (List.getElem?_eq_some_iff.mp hi).1
  have hml := mvs_len hf c o
  refine mC_mono (m_findMove (d := d) hf hm hq (nI i)) (fun r sp σ1 h => ?_)
  obtain ⟨h1, h2⟩ := h
  rcases h2 with ⟨i2, q2, e1, e2, e3, e4⟩ | ⟨e1, e2, e3⟩
  · have hl2 := (List.getElem?_eq_some_iff.mp e2).1
    have : i = i2 := (nI_eq (by omega) (by omega)).mp e1
    subst this
    rw [hi] at e2
    cases e2
    exact ⟨e3, h1, e4⟩
  · exact absurd rfl (e1 i hil)
theorem m_countMoves (hf : fOk F) (hm : mF σ F) {c o : Int64} (hq : mQ σ c o) : mNP g l (d + 2) 154 [.ref 48] lk ex σ (.int (nI (mvs F c o).length)) := by
  have hml := mvs_len hf c o
  have ok : mOkP md_X9_countMoves := ok_at 154 (by decide) rfl
  refine mC_of (md := md_X9_countMoves) rfl (lt_at (by decide)) rfl ?_
  refine mGo_run (n := 400) ok rfl ?_
  refine mGo_call ok rfl (by omega) (m_findMove (d := d) hf hm hq (-1)) (fun r sp σ1 h => ?_)
  obtain ⟨rfl, h2⟩ := h
  rcases h2 with ⟨i2, q2, e1, e2, e3, e4⟩ | ⟨e1, rfl, rfl⟩
  · have hl2 := (List.getElem?_eq_some_iff.mp e2).1
    exact absurd (show nI i2 < 0 by rw [← e1]; decide) (nI_pos (by omega))
  · refine mGo_run (n := 400) ok rfl ?_
    exact mGo_ret ok rfl trivial (⟨rfl, rfl, rfl⟩)
theorem m_isMove1 (hf : fOk F) (hm : mF σ F) {c o : Int64} (hq : mQ σ c o) {i : Nat} {q : Nat × Nat} (hi : (mvs F c o)[i]? = some q) : mNR g l (d + 3) 155 [.ref 48, .int (nI i)] lk ex σ (.int 1) (fun σ1 => σ1 = mWI (mWI σ 48 18 (nI q.1)) 48 19 (nI q.2)) := by
  have hil := (List.getElem?_eq_some_iff.mp hi).1
  have hml := mvs_len hf c o
  have ok : mOkP md_X9_isMove := ok_at 155 (by decide) rfl
  refine mC_of (md := md_X9_isMove) rfl (lt_at (by decide)) rfl ?_
  refine mGo_run (n := 400) ok rfl ?_
  refine mGo_if ok rfl (fun h => ?_) (fun h => ?_)
  · exact absurd h (nI_pos (by omega))
  · refine mGo_run (n := 400) ok rfl ?_
    refine mGo_callP ok rfl (by omega) (m_countMoves (d := d) hf hm hq) ?_
    refine mGo_run (n := 400) ok rfl ?_
    refine mGo_ifI ok rfl (nI_leI (a := (mvs F c o).length) (b := i) (by omega) (by omega)) (fun h1 => ?_) (fun h1 => ?_)
    · omega
    · refine mGo_run (n := 400) ok rfl ?_
      refine mGo_callR ok rfl (by omega) (m_find1 (d := d) hf hm hq hi) (fun σ1 hσ1 => ?_)
      refine mGo_run (n := 400) ok rfl ?_
      refine mGo_if ok rfl (fun h2 => ?_) (fun h2 => ?_)
      · refine mGo_run (n := 400) ok rfl ?_
        exact mGo_ret ok rfl (Or.inr rfl) (⟨rfl, rfl, hσ1⟩)
      · exact absurd rfl h2
theorem m_isMove0 (hf : fOk F) (hm : mF σ F) {c o : Int64} (hq : mQ σ c o) {v : Int32} (hv : ¬ ∃ j, j < (mvs F c o).length ∧ v = nI j) : mNP g l (d + 3) 155 [.ref 48, .int v] lk ex σ (.int 0) := by
  have hml := mvs_len hf c o
  have ok : mOkP md_X9_isMove := ok_at 155 (by decide) rfl
  refine mC_of (md := md_X9_isMove) rfl (lt_at (by decide)) rfl ?_
  refine mGo_run (n := 400) ok rfl ?_
  refine mGo_if ok rfl (fun h => ?_) (fun h => ?_)
  · refine mGo_run (n := 400) ok rfl ?_
    exact mGo_ret ok rfl (Or.inl rfl) (⟨rfl, rfl, rfl⟩)
  · refine mGo_run (n := 400) ok rfl ?_
    refine mGo_callP ok rfl (by omega) (m_countMoves (d := d) hf hm hq) ?_
    refine mGo_run (n := 400) ok rfl ?_
    refine mGo_if ok rfl (fun h1 => ?_) (fun h1 => ?_)
    · refine mGo_run (n := 400) ok rfl ?_
      exact mGo_ret ok rfl (Or.inl rfl) (⟨rfl, rfl, rfl⟩)
    · exact absurd ((i_in (by omega)).mp ⟨Int32.not_lt.mp h, Int32.not_le.mp h1⟩) hv
theorem m_countReplies (hf : fOk F) (hm : mF σ F) {q : Nat × Nat} (hv : mV σ q) (ho : mvOk F q) : mNP g l (d + 1) 156 [.ref 48] lk ex σ (.int (nI (rpN F q))) := by
  obtain ⟨o1, o2, o3⟩ := ho
  obtain ⟨v1, v2⟩ := hv
  obtain ⟨w1, w2, w3, w4, w5, w6⟩ := hf.2.2 q.2 o1
  obtain ⟨m1, m2, m3⟩ := hm.2 q.2 o1
  have hn := hf.2.1
  have ok : mOkP md_X9_countReplies := ok_at 156 (by decide) rfl
  refine mC_of (md := md_X9_countReplies) rfl (lt_at (by decide)) rfl ?_
  refine mGo_run (n := 400) ok rfl ?_
  rw [v1, v2]
  refine mGo_ifI ok rfl (nI_eq (a := q.1) (b := 0) (by omega) (by omega)) (fun e => ?_) (fun e => ?_)
  · refine mGo_run (n := 400) ok rfl ?_
    refine mGo_callP ok rfl (by omega) (m_attacksOn (d := d) hf hm o1) ?_
    refine mGo_run (n := 400) ok rfl ?_
    exact mGo_ret ok rfl trivial (⟨by rw [rpN, if_pos e], rfl, rfl⟩)
  · obtain ⟨k0, k2⟩ := o3 e
    have hA := w3 k0
    refine mGo_run (n := 400) ok rfl ?_
    refine mGo_side ok rfl (nI_in (by omega) (by omega)) ?_
    rw [nI_clamp (n := q.2) (by omega), m1]
    refine mGo_sw ok rfl ⟨fun h2 => ?_, fun h2 => ⟨fun h3 => ?_, fun h3 => ⟨fun h4 => ?_, fun h4 => ?_⟩⟩⟩
    · have e1 : aK F q.2 = 1 := (nI_eq (a := aK F q.2) (b := 1) (by omega) (by omega)).mp h2
      refine mGo_run (n := 400) ok rfl ?_
      refine mGo_side ok rfl (nI_in (by omega) (by omega)) ?_
      rw [nI_clamp (n := q.2) (by omega), m2]
      refine mGo_callP ok rfl (by omega) (m_attacksOn (d := d) hf hm (j := aA F q.2) (by omega)) ?_
      refine mGo_run (n := 400) ok rfl ?_
      exact mGo_ret ok rfl trivial (⟨by rw [rpN, if_neg e, if_pos e1], rfl, rfl⟩)
    · have e1 : aK F q.2 = 2 := (nI_eq (a := aK F q.2) (b := 2) (by omega) (by omega)).mp h3
      refine mGo_run (n := 400) ok rfl ?_
      exact mGo_ret ok rfl trivial (⟨by rw [rpN, if_neg e, if_neg (by omega), if_pos e1]; rfl, rfl, rfl⟩)
    · have e1 : aK F q.2 = 3 := (nI_eq (a := aK F q.2) (b := 3) (by omega) (by omega)).mp h4
      refine mGo_run (n := 400) ok rfl ?_
      exact mGo_ret ok rfl trivial (⟨by rw [rpN, if_neg e, if_neg (by omega), if_neg (by omega), if_pos e1]; rfl, rfl, rfl⟩)
    · have n1 : aK F q.2 ≠ 1 := fun z => h2 (by rw [z]; rfl)
      have n2 : aK F q.2 ≠ 2 := fun z => h3 (by rw [z]; rfl)
      have n3 : aK F q.2 ≠ 3 := fun z => h4 (by rw [z]; rfl)
      refine mGo_run (n := 400) ok rfl ?_
      refine mGo_side ok rfl (nI_in (by omega) (by omega)) ?_
      rw [nI_clamp (n := q.2) (by omega), m2]
      refine mGo_callP ok rfl (by omega) (m_attacksOn (d := d) hf hm (j := aA F q.2) (by omega)) ?_
      refine mGo_run (n := 400) ok rfl ?_
      exact mGo_ret ok rfl trivial (⟨by rw [rpN, if_neg e, if_neg n1, if_neg n2, if_neg n3, nI_1], rfl, rfl⟩)
theorem rpN_le (F : aF) (q : Nat × Nat) : rpN F q ≤ 3 := by
  have a1 : ∀ k, atk k ≤ 2 := fun k => by unfold atk; split <;> (try split) <;> omega
  have := a1 (aK F q.2)
  have := a1 (aK F (aA F q.2))
  unfold rpN
  split
  · omega
  · split
    · omega
    · split
      · omega
      · split <;> omega
theorem m_reply (hf : fOk F) (hm : mF σ F) {c o : Int64} (hq : mQ σ c o) {man : Nat} (hman : σ.1 48 17 = nI man) (hm1 : man ≤ 1) {q : Nat × Nat} (hv : mV σ q) (ho : mvOk F q) {r : Nat} (hr : r < rpN F q) : mNV g l (d + 1) 157 [.ref 48, .int (nI r)] lk ex σ (fun σ1 => fr 48 49 σ σ1 ∧ fm [15, 16] σ σ1 ∧ mQ σ1 (rpP F man c o q r).1 (rpP F man c o q r).2) := by
  obtain ⟨o1, o2, o3⟩ := ho
  obtain ⟨v1, v2⟩ := hv
  obtain ⟨w1, w2, w3, w4, w5, w6⟩ := hf.2.2 q.2 o1
  obtain ⟨m1, m2, m3⟩ := hm.2 q.2 o1
  have hn := hf.2.1
  have hr2 := rpN_le F q
  have fin : ∀ x : Int64, rpP F man c o q r = (c ||| x, o) → fr 48 49 σ (mWL σ 48 15 (c ||| x)) ∧ fm [15, 16] σ (mWL σ 48 15 (c ||| x)) ∧ mQ (mWL σ 48 15 (c ||| x)) (rpP F man c o q r).1 (rpP F man c o q r).2 := fun x hx => ⟨fr.refl.WL (by decide) (by decide), fm.refl.WL (fun _ => by decide), by rw [hx]; simp [WL_at], by rw [hx]; simp [WL_at, hq.2]⟩
  have ok : mOkP md_X9_reply := ok_at 157 (by decide) rfl
  refine mC_of (md := md_X9_reply) rfl (lt_at (by decide)) rfl ?_
  refine mGo_run (n := 400) ok rfl ?_
  rw [v1, v2]
  refine mGo_ifI ok rfl (nI_eq (a := q.1) (b := 0) (by omega) (by omega)) (fun e => ?_) (fun e => ?_)
  · have k0 : aK F q.2 ≠ 0 := fun z => by rw [rpN, if_pos e, z] at hr; exact absurd hr (by simp [atk])
    refine mGo_run (n := 400) ok rfl ?_
    refine mGo_callV ok rfl (by omega) (m_attack (d := d) hf hm hq hman hm1 o1 k0 (r := r) (by omega)) (fun σ1 hσ1 => ?_)
    refine mGo_run (n := 400) ok rfl ?_
    exact mGo_ret ok rfl trivial (⟨rfl, rfl, by rw [rpP, if_pos e]; exact hσ1⟩)
  · obtain ⟨k0, k2⟩ := o3 e
    have hA := w3 k0
    refine mGo_run (n := 400) ok rfl ?_
    refine mGo_side ok rfl (nI_in (by omega) (by omega)) ?_
    rw [nI_clamp (n := q.2) (by omega), m1]
    refine mGo_sw ok rfl ⟨fun h2 => ?_, fun h2 => ⟨fun h3 => ?_, fun h3 => ⟨fun h4 => ?_, fun h4 => ?_⟩⟩⟩
    · have e1 : aK F q.2 = 1 := (nI_eq (a := aK F q.2) (b := 1) (by omega) (by omega)).mp h2
      have hr3 : r < atk (aK F (aA F q.2)) := by rw [rpN, if_neg e, if_pos e1] at hr; exact hr
      have ka : aK F (aA F q.2) ≠ 0 := fun z => by rw [z] at hr3; exact absurd hr3 (by simp [atk])
      have n2 : ¬ (q.1 = 2 ∨ q.1 = 3) := fun z => by have := k2.mp z; omega
      refine mGo_run (n := 400) ok rfl ?_
      refine mGo_side ok rfl (nI_in (by omega) (by omega)) ?_
      rw [nI_clamp (n := q.2) (by omega), m2]
      refine mGo_run (n := 400) ok rfl ?_
      refine mGo_callV ok rfl (by omega) (m_attack (d := d) hf hm hq hman hm1 (f := aA F q.2) (by omega) ka (r := r) (by omega)) (fun σ1 hσ1 => ?_)
      refine mGo_run (n := 400) ok rfl ?_
      exact mGo_ret ok rfl trivial (⟨rfl, rfl, by rw [rpP, if_neg e, if_neg (fun z => n2 (Or.inl z)), if_neg (fun z => n2 (Or.inr z)), if_neg (by omega), if_pos hr3]; exact hσ1⟩)
    · have e1 : aK F q.2 = 2 := (nI_eq (a := aK F q.2) (b := 2) (by omega) (by omega)).mp h3
      have hB := w4 (by omega)
      refine mGo_run (n := 400) ok rfl ?_
      rw [v1, hq.1]
      refine mGo_ifI ok rfl (nI_eq (a := q.1) (b := 2) (by omega) (by omega)) (fun h5 => ?_) (fun h5 => ?_)
      · refine mGo_run (n := 400) ok rfl ?_
        refine mGo_side ok rfl (nI_in (by omega) (by omega)) ?_
        rw [nI_clamp (n := q.2) (by omega), m2]
        refine mGo_run (n := 400) ok rfl ?_
        exact mGo_ret ok rfl trivial (⟨rfl, rfl, fin (bit (aA F q.2)) (by rw [rpP, if_neg e, if_pos h5])⟩)
      · have e3 : q.1 = 3 := by rcases k2.mpr e1 with z | z; exact absurd z h5; exact z
        refine mGo_run (n := 400) ok rfl ?_
        refine mGo_side ok rfl (nI_in (by omega) (by omega)) ?_
        rw [nI_clamp (n := q.2) (by omega), m3]
        refine mGo_run (n := 400) ok rfl ?_
        exact mGo_ret ok rfl trivial (⟨rfl, rfl, fin (bit (aB F q.2)) (by rw [rpP, if_neg e, if_neg h5, if_pos e3])⟩)
    · have e1 : aK F q.2 = 3 := (nI_eq (a := aK F q.2) (b := 3) (by omega) (by omega)).mp h4
      have hB := w4 (by omega)
      have n2 : ¬ (q.1 = 2 ∨ q.1 = 3) := fun z => by have := k2.mp z; omega
      refine mGo_run (n := 400) ok rfl ?_
      rw [hq.1]
      refine mGo_ifI ok rfl (nI_eq (a := r) (b := 0) (by omega) (by omega)) (fun h5 => ?_) (fun h5 => ?_)
      · refine mGo_run (n := 400) ok rfl ?_
        refine mGo_side ok rfl (nI_in (by omega) (by omega)) ?_
        rw [nI_clamp (n := q.2) (by omega), m2]
        refine mGo_run (n := 400) ok rfl ?_
        exact mGo_ret ok rfl trivial (⟨rfl, rfl, fin (bit (aA F q.2)) (by rw [rpP, if_neg e, if_neg (fun z => n2 (Or.inl z)), if_neg (fun z => n2 (Or.inr z)), if_pos e1, if_pos h5])⟩)
      · refine mGo_run (n := 400) ok rfl ?_
        refine mGo_side ok rfl (nI_in (by omega) (by omega)) ?_
        rw [nI_clamp (n := q.2) (by omega), m3]
        refine mGo_run (n := 400) ok rfl ?_
        exact mGo_ret ok rfl trivial (⟨rfl, rfl, fin (bit (aB F q.2)) (by rw [rpP, if_neg e, if_neg (fun z => n2 (Or.inl z)), if_neg (fun z => n2 (Or.inr z)), if_pos e1, if_neg h5])⟩)
    · have n1 : aK F q.2 ≠ 1 := fun z => h2 (by rw [z]; rfl)
      have n2 : aK F q.2 ≠ 2 := fun z => h3 (by rw [z]; rfl)
      have n3 : aK F q.2 ≠ 3 := fun z => h4 (by rw [z]; rfl)
      have n4 : ¬ (q.1 = 2 ∨ q.1 = 3) := fun z => by have := k2.mp z; omega
      have hB := w4 (by omega)
      have a1 : atk (aK F (aA F q.2)) ≤ 2 := by unfold atk; split <;> (try split) <;> omega
      refine mGo_run (n := 400) ok rfl ?_
      refine mGo_side ok rfl (nI_in (by omega) (by omega)) ?_
      rw [nI_clamp (n := q.2) (by omega), m2]
      refine mGo_callP ok rfl (by omega) (m_attacksOn (d := d) hf hm (j := aA F q.2) (by omega)) ?_
      refine mGo_run (n := 400) ok rfl ?_
      refine mGo_ifI ok rfl (nI_leI (a := atk (aK F (aA F q.2))) (b := r) (by omega) (by omega)) (fun h5 => ?_) (fun h5 => ?_)
      · refine mGo_run (n := 400) ok rfl ?_
        refine mGo_side ok rfl (nI_in (by omega) (by omega)) ?_
        rw [nI_clamp (n := q.2) (by omega), m3]
        rw [hq.1]
        refine mGo_run (n := 400) ok rfl ?_
        exact mGo_ret ok rfl trivial (⟨rfl, rfl, fin (bit (aB F q.2)) (by rw [rpP, if_neg e, if_neg (fun z => n4 (Or.inl z)), if_neg (fun z => n4 (Or.inr z)), if_neg n3, if_neg (by omega)])⟩)
      · have ka : aK F (aA F q.2) ≠ 0 := fun z => by rw [z] at h5; exact absurd h5 (by simp [atk])
        refine mGo_run (n := 400) ok rfl ?_
        refine mGo_side ok rfl (nI_in (by omega) (by omega)) ?_
        rw [nI_clamp (n := q.2) (by omega), m2]
        refine mGo_run (n := 400) ok rfl ?_
        refine mGo_callV ok rfl (by omega) (m_attack (d := d) hf hm hq hman hm1 (f := aA F q.2) (by omega) ka (r := r) (by omega)) (fun σ1 hσ1 => ?_)
        refine mGo_run (n := 400) ok rfl ?_
        exact mGo_ret ok rfl trivial (⟨rfl, rfl, by rw [rpP, if_neg e, if_neg (fun z => n4 (Or.inl z)), if_neg (fun z => n4 (Or.inr z)), if_neg n3, if_pos (by omega)]; exact hσ1⟩)
end T
end
section
/-! the class Dialogue -/
/-- the move with a number -/
def mvA (ms : List (Nat × Nat)) (m : Int32) : Option (Nat × Nat) := if m < 0 then none else ms[m.toNatClampNeg]?
theorem mvA_cases (ms : List (Nat × Nat)) (hl : ms.length ≤ 112) (m : Int32) : (mvA ms m = none ∧ ¬ ∃ j, j < ms.length ∧ m = nI j) ∨ ∃ i q, m = nI i ∧ ms[i]? = some q ∧ mvA ms m = some q := by
  unfold mvA
  by_cases h : m < 0
  · rw [if_pos h]
    exact Or.inl ⟨rfl, fun ⟨j, hj, e⟩ => absurd (e ▸ h) (nI_pos (by omega))⟩
  · rw [if_neg h]
    obtain ⟨j, hj, rfl⟩ := nI_of h
    rw [nI_clamp hj]
    cases e : ms[j]? with
    | none =>
      refine Or.inl ⟨rfl, fun ⟨i, hi, e2⟩ => ?_⟩
      have : j = i := (nI_eq hj (by omega)).mp e2
      subst this
      have := List.getElem?_eq_none_iff.mp e
      omega
    | some q => exact Or.inr ⟨j, q, rfl, e, rfl⟩
def upP (ps : Nat → Int64 × Int64) (i : Nat) (p : Int64 × Int64) : Nat → Int64 × Int64 := fun j => if j = i then p else ps j
/-- a dialogue goes on by a move and a reply: the answer; is it won, how many were played, the positions -/
def aPl (F : aF) (k man : Nat) (ps : Nat → Int64 × Int64) (m r : Int32) : Int32 × Bool × Nat × (Nat → Int64 × Int64) :=
  match mvA (mvs F (ps k).1 (ps k).2) m with
  | none => (-5, false, k, ps)
  | some q => if rpN F q = 0 then (if k = 20 then (-3, false, k, ps) else (1000, true, k + 1, upP ps (k + 1) (ps k)))
    else if ¬ (0 ≤ r ∧ r < nI (rpN F q)) then (-1, false, k, ps)
    else if k = 20 then (-3, false, k, ps)
    else (nI (mvs F (rpP F man (ps k).1 (ps k).2 q r.toNatClampNeg).1 (rpP F man (ps k).1 (ps k).2 q r.toNatClampNeg).2).length, false, k + 1, upP ps (k + 1) (rpP F man (ps k).1 (ps k).2 q r.toNatClampNeg))
/-- the class's dialogue: begun, won, how many were played, the manner, the positions -/
def cD (σ : mHp) (F : aF) (bg w : Bool) (k man : Nat) (ps : Nat → Int64 × Int64) : Prop := σ.1 15 4 = bI bg ∧ σ.1 15 5 = bI (bg && w) ∧ σ.1 15 3 = nI (if bg = true then k else 0) ∧ (bg = true → (∀ i, i < k → σ.2.1 16 i = (ps i).1 ∧ σ.2.1 17 i = (ps i).2) ∧ σ.1 18 4 = nI man ∧ σ.2.1 18 5 = (ps k).1 ∧ σ.2.1 18 6 = (ps k).2 ∧ bM σ 18 (mvs F (ps k).1 (ps k).2))
theorem bM_fr {lo hi b : Nat} {σ σ1 : mHp} {ms : List (Nat × Nat)} (h : fr lo hi σ σ1) (hb : b + 3 ≤ lo ∨ hi ≤ b) (hm : bM σ b ms) : bM σ1 b ms := by
  refine ⟨?_, fun i q hq => ?_⟩
  · rw [(h b (by omega)).1]; exact hm.1
  · rw [(h (b + 1) (by omega)).1, (h (b + 2) (by omega)).1]; exact hm.2 i q hq
theorem cD_fr {lo hi : Nat} {σ σ1 : mHp} {F : aF} {bg w : Bool} {k man : Nat} {ps : Nat → Int64 × Int64} (h : fr lo hi σ σ1) (hlo : 21 ≤ lo ∨ hi ≤ 15) (hd : cD σ F bg w k man ps) : cD σ1 F bg w k man ps := by
  obtain ⟨d1, d2, d3, d4⟩ := hd
  have e15 := h 15 (by omega)
  have e16 := h 16 (by omega)
  have e17 := h 17 (by omega)
  have e18 := h 18 (by omega)
  refine ⟨by rw [e15.1]; exact d1, by rw [e15.1]; exact d2, by rw [e15.1]; exact d3, fun z => ?_⟩
  obtain ⟨f1, f2, f3, f4, f5⟩ := d4 z
  exact ⟨fun i hi => by rw [e16.2.1, e17.2.1]; exact f1 i hi, by rw [e18.1]; exact f2, by rw [e18.2.1]; exact f3, by rw [e18.2.1]; exact f4, bM_fr h (by omega) f5⟩
theorem bI_and (a b : Bool) : bI (a && b) = if a = true then bI b else 0 := by cases a <;> cases b <;> rfl
section T
variable {g : mG} {l : Launch} {d : Nat} {lk : Nat} {ex : mSh} {σ : mHp} {F : aF} {bg w : Bool} {k man : Nat} {ps : Nat → Int64 × Int64}
theorem c_isOn (hD : cD σ F bg w k man ps) : mNP g l d 12 [.ref 15] lk ex σ (.int (bI (bg && !w))) := by
  obtain ⟨d1, d2, d3, d4⟩ := hD
  have ok : mOkP md_X1_isOn := ok_at 12 (by decide) rfl
  refine mC_of (md := md_X1_isOn) rfl (lt_at (by decide)) rfl ?_
  refine mGo_run (n := 400) ok rfl ?_
  rw [d1]
  refine mGo_if ok rfl (fun h => ?_) (fun h => ?_)
  · cases bg with
    | true => exact absurd h (by decide)
    | false =>
      refine mGo_run (n := 400) ok rfl ?_
      exact mGo_ret ok rfl (Or.inl rfl) (⟨rfl, rfl, rfl⟩)
  · cases bg with
    | false => exact absurd rfl h
    | true =>
      refine mGo_run (n := 400) ok rfl ?_
      rw [d2]
      refine mGo_if ok rfl (fun h1 => ?_) (fun h1 => ?_)
      · cases w with
        | true => exact absurd h1 (by decide)
        | false =>
          refine mGo_run (n := 400) ok rfl ?_
          exact mGo_ret ok rfl (Or.inr rfl) (⟨rfl, rfl, rfl⟩)
      · cases w with
        | false => exact absurd rfl h1
        | true =>
          refine mGo_run (n := 400) ok rfl ?_
          exact mGo_ret ok rfl (Or.inl rfl) (⟨rfl, rfl, rfl⟩)
theorem c_drop : mNV g l d 13 [.ref 15] lk ex σ (fun σ1 => σ1 = mWI (mWI (mWI σ 15 4 0) 15 5 0) 15 3 0) := by
  have ok : mOkP md_X1_drop := ok_at 13 (by decide) rfl
  refine mC_of (md := md_X1_drop) rfl (lt_at (by decide)) rfl ?_
  refine mGo_run (n := 400) ok rfl ?_
  refine mGo_side ok rfl (Or.inl rfl) ?_
  refine mGo_run (n := 400) ok rfl ?_
  refine mGo_side ok rfl (Or.inl rfl) ?_
  refine mGo_run (n := 400) ok rfl ?_
  exact mGo_ret ok rfl trivial (⟨rfl, rfl, rfl⟩)
theorem c_open (hf : fOk F) (hc : cF σ F) {f mn r : Nat} (hfn : f < aN F) (k0 : aK F f ≠ 0) (hm1 : mn ≤ 1) (hr : r < 4) : mNV g l (d + 4) 14 [.ref 15, .int (nI f), .int (nI mn), .int (nI r)] lk ex σ (fun σ1 => fr 15 21 σ σ1 ∧ cD σ1 F true false 0 mn (fun _ => atP2 F mn 0 0 f r)) := by
  have ok : mOkP md_X1_open := ok_at 14 (by decide) rfl
  refine mC_of (md := md_X1_open) rfl (lt_at (by decide)) rfl ?_
  refine mGo_run (n := 400) ok rfl ?_
  refine mGo_callV ok rfl (by omega) (c_drop (d := d)) (fun σ1 hσ1 => ?_)
  refine mGo_run (n := 400) ok rfl ?_
  refine mGo_side ok rfl (Or.inr rfl) ?_
  refine mGo_run (n := 400) ok rfl ?_
  subst hσ1
  have fr0 : fr 15 21 σ (mWL (mWL (mWI (mWI (mWI (mWI (mWI σ 15 4 0) 15 5 0) 15 3 0) 15 4 1) 18 4 (nI mn)) 18 5 0) 18 6 0) := ((((((fr.refl.WI (by decide) (by decide)).WI (by decide) (by decide)).WI (by decide) (by decide)).WI (by decide) (by decide)).WI (by decide) (by decide)).WL (by decide) (by decide)).WL (by decide) (by decide)
  refine mGo_callV ok rfl (by omega) (c_attack18 (d := d) (c := 0) (o := 0) (man := mn) hf (cF_fr fr0 (Or.inl (by decide)) hc) (by simp [WL_at]) (by simp [WL_at]) (show (mWI (mWI (mWI (mWI (mWI σ 15 4 0) 15 5 0) 15 3 0) 15 4 1) 18 4 (nI mn)).1 18 4 = nI mn by simp [WI_at]) hm1 hfn k0 (r := r) (by omega)) (fun σ2 hσ2 => ?_)
  refine mGo_run (n := 400) ok rfl ?_
  have fr1 : fr 15 21 σ σ2 := by rw [hσ2]; exact (fr0.WL (by decide) (by decide)).WL (by decide) (by decide)
  rw [show σ2.2.1 18 7 = (atP2 F mn 0 0 f r).1 by rw [hσ2]; simp [WL_at], show σ2.2.1 18 8 = (atP2 F mn 0 0 f r).2 by rw [hσ2]; simp [WL_at]]
  refine mGo_callV ok rfl (by omega) (c_setUp18 (d := d) hf (cF_fr fr1 (Or.inl (by decide)) hc) (atP2 F mn 0 0 f r).1 (atP2 F mn 0 0 f r).2) (fun σ3 hσ3 => ?_)
  obtain ⟨s1, s2, s3, s4, s5, s6⟩ := hσ3
  have e15 := (s1 15 (by decide)).1
  refine mGo_run (n := 400) ok rfl ?_
  refine mGo_ret ok rfl trivial ⟨rfl, rfl, fr1.trans (s1.wide (by decide) (by decide)), ?_, ?_, ?_, fun _ => ⟨fun i hi => absurd hi (Nat.not_lt_zero i), ?_, s3, s4, s6⟩⟩
  · rw [e15, hσ2]; show (mWI (mWI (mWI (mWI (mWI σ 15 4 0) 15 5 0) 15 3 0) 15 4 1) 18 4 (nI mn)).1 15 4 = _; simp [WI_at, bI]
  · rw [e15, hσ2]; show (mWI (mWI (mWI (mWI (mWI σ 15 4 0) 15 5 0) 15 3 0) 15 4 1) 18 4 (nI mn)).1 15 5 = _; simp [WI_at, bI]
  · rw [e15, hσ2]; show (mWI (mWI (mWI (mWI (mWI σ 15 4 0) 15 5 0) 15 3 0) 15 4 1) 18 4 (nI mn)).1 15 3 = _; simp [WI_at]; rfl
  · rw [s2 4 (by decide), hσ2]; show (mWI (mWI (mWI (mWI (mWI σ 15 4 0) 15 5 0) 15 3 0) 15 4 1) 18 4 (nI mn)).1 18 4 = _; simp [WI_at]
theorem c_advance (hf : fOk F) (hc : cF σ F) (hD : cD σ F true false k man ps) (hk : k ≤ 20) (hm1 : man ≤ 1) (m r : Int32) : mNR g l (d + 4) 15 [.ref 15, .int m, .int r] lk ex σ (.int (aPl F k man ps m r).1) (fun σ1 => fr 15 21 σ σ1 ∧ cD σ1 F true (aPl F k man ps m r).2.1 (aPl F k man ps m r).2.2.1 man (aPl F k man ps m r).2.2.2) := by
  have hD0 := hD
  obtain ⟨d1, d2, d3, d4⟩ := hD0
  obtain ⟨f1, f2, f3, f4, f5⟩ := d4 rfl
  have hml := mvs_len hf (ps k).1 (ps k).2
  rw [if_pos rfl] at d3
  have ok : mOkP md_X1_advance := ok_at 15 (by decide) rfl
  refine mC_of (md := md_X1_advance) rfl (lt_at (by decide)) rfl ?_
  refine mGo_run (n := 400) ok rfl ?_
  refine mGo_callP ok rfl (by omega) (c_isOn (d := d) hD) ?_
  refine mGo_if ok rfl (fun h => ?_) (fun h => ?_)
  · exact absurd h (by decide)
  refine mGo_run (n := 400) ok rfl ?_
  rcases mvA_cases (mvs F (ps k).1 (ps k).2) hml m with ⟨e1, e2⟩ | ⟨i, q, rfl, hi, e1⟩
  · have ea : aPl F k man ps m r = (-5, false, k, ps) := by unfold aPl; rw [e1]
    rw [ea]
    refine mGo_callP ok rfl (by omega) (c_hasMove018 (d := d) f5.1 (by omega) e2) ?_
    refine mGo_if ok rfl (fun h1 => ?_) (fun h1 => ?_)
    · refine mGo_run (n := 400) ok rfl ?_
      exact mGo_ret ok rfl trivial (⟨rfl, rfl, fr.refl, hD⟩)
    · exact absurd rfl h1
  · have hil := (List.getElem?_eq_some_iff.mp hi).1
    have ho := mvs_at hf hi
    have hr3 := rpN_le F q
    refine mGo_callP ok rfl (by omega) (c_hasMove118 (d := d) f5.1 (by omega) hil) ?_
    refine mGo_if ok rfl (fun h1 => ?_) (fun h1 => ?_)
    · exact absurd h1 (by decide)
    refine mGo_run (n := 400) ok rfl ?_
    refine mGo_callP ok rfl (by omega) (c_repliesTo18 (d := d) hf hc f5 (by omega) hi ho) ?_
    refine mGo_run (n := 400) ok rfl ?_
    have go : (rpN F q ≠ 0 → 0 ≤ r ∧ r < nI (rpN F q)) → mGo g l (d + 4) md_X1_advance (SH lk ex).length (mTot (SH lk ex)) (48, [some (.ref 15), some (.int (nI i)), some (.int r), some (.int (nI (rpN F q)))], [], SH lk ex, σ) (fun r1 sp σ1 => r1 = some (.int (aPl F k man ps (nI i) r).1) ∧ sp = SH lk ex ∧ (fr 15 21 σ σ1 ∧ cD σ1 F true (aPl F k man ps (nI i) r).2.1 (aPl F k man ps (nI i) r).2.2.1 man (aPl F k man ps (nI i) r).2.2.2)) := by
      intro hr
      have ef : k = 20 → aPl F k man ps (nI i) r = (-3, false, k, ps) := by
        intro z
        unfold aPl
        rw [e1]
        by_cases y : rpN F q = 0
        · simp only [if_pos y, if_pos z]
        · simp only [if_neg y, if_pos z]
          rw [if_neg (fun t => t (hr y))]
      refine mGo_run (n := 400) ok rfl ?_
      rw [d3]
      refine mGo_ifI ok rfl (nI_ltI (a := k) (b := 20) (by omega) (by omega)) (fun h2 => ?_) (fun h2 => ?_)
      · refine mGo_run (n := 400) ok rfl ?_
        rw [d3]
        refine mGo_side ok rfl (nI_in (by omega) (by omega)) ?_
        rw [nI_clamp (by omega)]
        refine mGo_run (n := 400) ok rfl ?_
        rw [show (mWL σ 16 k (σ.2.1 18 5)).1 15 3 = nI k from d3]
        refine mGo_side ok rfl (nI_in (by omega) (by omega)) ?_
        rw [nI_clamp (by omega)]
        refine mGo_run (n := 400) ok rfl ?_
        rw [show (mWL (mWL σ 16 k (σ.2.1 18 5)) 17 k ((mWL σ 16 k (σ.2.1 18 5)).2.1 18 6)).1 15 3 = nI k from d3, show (mWL σ 16 k (σ.2.1 18 5)).2.1 18 6 = (ps k).2 by simp [WL_at, f4], f3, nI_1]
        have fr0 : fr 15 21 σ (mWI (mWL (mWL σ 16 k (ps k).1) 17 k (ps k).2) 15 3 (nI (k + 1))) := ((fr.refl.WL (by decide) (by decide)).WL (by decide) (by decide)).WI (by decide) (by decide)
        have past : ∀ (p : Int64 × Int64), ∀ i, i < k + 1 → (mWI (mWL (mWL σ 16 k (ps k).1) 17 k (ps k).2) 15 3 (nI (k + 1))).2.1 16 i = (upP ps (k + 1) p i).1 ∧ (mWI (mWL (mWL σ 16 k (ps k).1) 17 k (ps k).2) 15 3 (nI (k + 1))).2.1 17 i = (upP ps (k + 1) p i).2 := by
          intro p i hi
          show (mWL (mWL σ 16 k (ps k).1) 17 k (ps k).2).2.1 16 i = _ ∧ (mWL (mWL σ 16 k (ps k).1) 17 k (ps k).2).2.1 17 i = _
          have ne : ¬ i = k + 1 := by omega
          simp only [upP, if_neg ne]
          by_cases z : i = k
          · subst z; constructor <;> simp [WL_at]
          · obtain ⟨g1, g2⟩ := f1 i (by omega)
            constructor
            · simpa [WL_at, z] using g1
            · simpa [WL_at, z] using g2
        refine mGo_ifI ok rfl (nI_eq (a := rpN F q) (b := 0) (by omega) (by omega)) (fun h3 => ?_) (fun h3 => ?_)
        · have ea : aPl F k man ps (nI i) r = (1000, true, k + 1, upP ps (k + 1) (ps k)) := by
            unfold aPl; rw [e1]; simp only [if_pos h3]; rw [if_neg (by omega)]
          rw [ea]
          refine mGo_run (n := 400) ok rfl ?_
          refine mGo_side ok rfl (Or.inr rfl) ?_
          refine mGo_run (n := 400) ok rfl ?_
          refine mGo_ret ok rfl trivial ⟨rfl, rfl, fr0.WI (by decide) (by decide), ?_, ?_, ?_, fun _ => ⟨past (ps k), ?_, ?_, ?_, ?_⟩⟩
          · rw [WI_at, if_neg (by omega), WI_at, if_neg (by omega)]; exact d1
          · rw [WI_at, if_pos ⟨rfl, rfl⟩]; rfl
          · rw [WI_at, if_neg (by omega), WI_at, if_pos ⟨rfl, rfl⟩, if_pos rfl]
          · rw [WI_at, if_neg (by omega), WI_at, if_neg (by omega)]; exact f2
          · simp only [upP, if_pos]; show (mWL (mWL σ 16 k (ps k).1) 17 k (ps k).2).2.1 18 5 = _; simp [WL_at, f3]
          · simp only [upP, if_pos]; show (mWL (mWL σ 16 k (ps k).1) 17 k (ps k).2).2.1 18 6 = _; simp [WL_at, f4]
          · simp only [upP, if_pos]
            have frx : fr 15 18 σ (mWI (mWI (mWL (mWL σ 16 k (ps k).1) 17 k (ps k).2) 15 3 (nI (k + 1))) 15 5 1) := (((fr.refl.WL (by decide) (by decide)).WL (by decide) (by decide)).WI (by decide) (by decide)).WI (by decide) (by decide)
            exact bM_fr frx (by omega) f5
        · obtain ⟨ra, rb⟩ := hr h3
          obtain ⟨rn, hrn, rfl⟩ := (i_in (n := rpN F q) (by omega)).mp ⟨ra, rb⟩
          have ea : aPl F k man ps (nI i) (nI rn) = (nI (mvs F (rpP F man (ps k).1 (ps k).2 q rn).1 (rpP F man (ps k).1 (ps k).2 q rn).2).length, false, k + 1, upP ps (k + 1) (rpP F man (ps k).1 (ps k).2 q rn)) := by
            unfold aPl; rw [e1]; simp only [if_neg h3]; rw [if_neg (fun t => t (hr h3)), if_neg (by omega), nI_clamp (by omega)]
          rw [ea]
          have fry : fr 15 18 σ (mWI (mWL (mWL σ 16 k (ps k).1) 17 k (ps k).2) 15 3 (nI (k + 1))) := ((fr.refl.WL (by decide) (by decide)).WL (by decide) (by decide)).WI (by decide) (by decide)
          have fb := bM_fr fry (by omega) f5
          refine mGo_run (n := 400) ok rfl ?_
          refine mGo_callV ok rfl (by omega) (c_answer18 (d := d) hf (cF_fr fr0 (Or.inl (by decide)) hc) (c := (ps k).1) (o := (ps k).2) (man := man) (by rw [(fry 18 (by omega)).2.1]; exact f3) (by rw [(fry 18 (by omega)).2.1]; exact f4) (by rw [(fry 18 (by omega)).1]; exact f2) hm1 fb (by omega) hi ho hrn) (fun σ1 hσ1 => ?_)
          refine mGo_run (n := 400) ok rfl ?_
          have fr1 : fr 15 21 σ σ1 := by rw [hσ1]; exact (fr0.WL (by decide) (by decide)).WL (by decide) (by decide)
          rw [show σ1.2.1 18 7 = (rpP F man (ps k).1 (ps k).2 q rn).1 by rw [hσ1]; simp [WL_at], show σ1.2.1 18 8 = (rpP F man (ps k).1 (ps k).2 q rn).2 by rw [hσ1]; simp [WL_at]]
          refine mGo_callV ok rfl (by omega) (c_setUp18 (d := d) hf (cF_fr fr1 (Or.inl (by decide)) hc) (rpP F man (ps k).1 (ps k).2 q rn).1 (rpP F man (ps k).1 (ps k).2 q rn).2) (fun σ2 hσ2 => ?_)
          obtain ⟨s1, s2, s3, s4, s5, s6⟩ := hσ2
          have e15 := (s1 15 (by decide)).1
          have e16 := (s1 16 (by decide)).2.1
          have e17 := (s1 17 (by decide)).2.1
          refine mGo_run (n := 400) ok rfl ?_
          rw [s6.1]
          refine mGo_ret ok rfl trivial ⟨rfl, rfl, fr1.trans (s1.wide (by decide) (by decide)), ?_, ?_, ?_, fun _ => ⟨fun j hj => ?_, ?_, ?_, ?_, ?_⟩⟩
          · rw [e15, hσ1]; show (mWI (mWL (mWL σ 16 k (ps k).1) 17 k (ps k).2) 15 3 (nI (k + 1))).1 15 4 = _; rw [WI_at, if_neg (by omega)]; exact d1
          · rw [e15, hσ1]; show (mWI (mWL (mWL σ 16 k (ps k).1) 17 k (ps k).2) 15 3 (nI (k + 1))).1 15 5 = _; rw [WI_at, if_neg (by omega)]; exact d2
          · rw [e15, hσ1]; show (mWI (mWL (mWL σ 16 k (ps k).1) 17 k (ps k).2) 15 3 (nI (k + 1))).1 15 3 = _; rw [WI_at, if_pos ⟨rfl, rfl⟩, if_pos rfl]
          · rw [e16, e17, hσ1]
            obtain ⟨p1, p2⟩ := past (rpP F man (ps k).1 (ps k).2 q rn) j hj
            rw [← p1, ← p2]
            constructor <;> simp [WL_at]
          · rw [s2 4 (by decide), hσ1]; show (mWI (mWL (mWL σ 16 k (ps k).1) 17 k (ps k).2) 15 3 (nI (k + 1))).1 18 4 = _; rw [WI_at, if_neg (by omega)]; exact f2
          · simp only [upP, if_pos]; exact s3
          · simp only [upP, if_pos]; exact s4
          · simp only [upP, if_pos]; exact s6
      · have e20 : k = 20 := by omega
        rw [ef e20]
        refine mGo_run (n := 400) ok rfl ?_
        exact mGo_ret ok rfl trivial (⟨rfl, rfl, fr.refl, hD⟩)
    have bad : rpN F q ≠ 0 → ¬ (0 ≤ r ∧ r < nI (rpN F q)) → mGo g l (d + 4) md_X1_advance (SH lk ex).length (mTot (SH lk ex)) (46, [some (.ref 15), some (.int (nI i)), some (.int r), some (.int (nI (rpN F q)))], [], SH lk ex, σ) (fun r1 sp σ1 => r1 = some (.int (aPl F k man ps (nI i) r).1) ∧ sp = SH lk ex ∧ (fr 15 21 σ σ1 ∧ cD σ1 F true (aPl F k man ps (nI i) r).2.1 (aPl F k man ps (nI i) r).2.2.1 man (aPl F k man ps (nI i) r).2.2.2)) := by
      intro z y
      have ea : aPl F k man ps (nI i) r = (-1, false, k, ps) := by
        unfold aPl; rw [e1]; simp only [if_neg z]; rw [if_pos y]
      rw [ea]
      refine mGo_run (n := 400) ok rfl ?_
      exact mGo_ret ok rfl trivial (⟨rfl, rfl, fr.refl, hD⟩)
    refine mGo_ifI ok rfl (nI_leI (a := rpN F q) (b := 0) (by omega) (by omega)) (fun h2 => ?_) (fun h2 => ?_)
    · exact go (fun z => by omega)
    · refine mGo_run (n := 400) ok rfl ?_
      refine mGo_if ok rfl (fun h3 => ?_) (fun h3 => ?_)
      · exact bad (by omega) (fun z => absurd h3 (Int32.not_lt.mpr z.1))
      · refine mGo_run (n := 400) ok rfl ?_
        refine mGo_if ok rfl (fun h4 => ?_) (fun h4 => ?_)
        · exact go (fun _ => ⟨Int32.not_lt.mp h3, h4⟩)
        · exact bad (by omega) (fun z => h4 z.2)
end T
end
section
/-! the dialogue: public methods of the class -/
abbrev qMan (m : Int32) : Prop := m = 0 ∨ m = 1
theorem qMan_n {m : Int32} (h : qMan m) : ∃ j : Nat, j ≤ 1 ∧ m = nI j := by
  rcases h with rfl | rfl
  · exact ⟨0, by decide, rfl⟩
  · exact ⟨1, by decide, rfl⟩
/-- begin: the answer, and the position if a dialogue begins -/
def qBeg (F : aF) (f m r : Int32) : Int32 × Option (Nat × Int64 × Int64) :=
  if ¬ (0 ≤ f ∧ f < nI (aN F)) then (-2, none)
  else if ¬ (qMan m ∧ 0 ≤ r ∧ r < nI (atk (aK F f.toNatClampNeg))) then (-1, none)
  else (nI (mvs F (atP2 F m.toNatClampNeg 0 0 f.toNatClampNeg r.toNatClampNeg).1 (atP2 F m.toNatClampNeg 0 0 f.toNatClampNeg r.toNatClampNeg).2).length, some (m.toNatClampNeg, atP2 F m.toNatClampNeg 0 0 f.toNatClampNeg r.toNatClampNeg))
theorem atk_le (k : Nat) : atk k ≤ 2 := by unfold atk; split <;> (try split) <;> omega
section T
variable {g : mG} {l : Launch} {d : Nat} {lk : Nat} {ex : mSh} {σ : mHp} {F : aF} {bg w : Bool} {k man : Nat} {ps : Nat → Int64 × Int64}
theorem c_isManner (m : Int32) : mNP g l d 111 [.int m] lk ex σ (.int (if qMan m then 1 else 0)) := by
  have ok : mOkP md_X8_isManner := ok_at 111 (by decide) rfl
  refine mC_of (md := md_X8_isManner) rfl (lt_at (by decide)) rfl ?_
  refine mGo_run (n := 400) ok rfl ?_
  refine mGo_if ok rfl (fun h => ?_) (fun h => ?_)
  · refine mGo_run (n := 400) ok rfl ?_
    exact mGo_ret ok rfl (Or.inr rfl) (⟨by rw [if_pos (Or.inl h)], rfl, rfl⟩)
  · refine mGo_run (n := 400) ok rfl ?_
    refine mGo_if ok rfl (fun h1 => ?_) (fun h1 => ?_)
    · refine mGo_run (n := 400) ok rfl ?_
      exact mGo_ret ok rfl (Or.inr rfl) (⟨by rw [if_pos (Or.inr h1)], rfl, rfl⟩)
    · refine mGo_run (n := 400) ok rfl ?_
      exact mGo_ret ok rfl (Or.inl rfl) (⟨by rw [if_neg (by rintro (z | z); exact h z; exact h1 z)], rfl, rfl⟩)
theorem m_isManner (m : Int32) : mNP g l d 166 [.int m] lk ex σ (.int (if qMan m then 1 else 0)) := by
  have ok : mOkP md_X9_isManner := ok_at 166 (by decide) rfl
  refine mC_of (md := md_X9_isManner) rfl (lt_at (by decide)) rfl ?_
  refine mGo_run (n := 400) ok rfl ?_
  refine mGo_if ok rfl (fun h => ?_) (fun h => ?_)
  · refine mGo_run (n := 400) ok rfl ?_
    exact mGo_ret ok rfl (Or.inr rfl) (⟨by rw [if_pos (Or.inl h)], rfl, rfl⟩)
  · refine mGo_run (n := 400) ok rfl ?_
    refine mGo_if ok rfl (fun h1 => ?_) (fun h1 => ?_)
    · refine mGo_run (n := 400) ok rfl ?_
      exact mGo_ret ok rfl (Or.inr rfl) (⟨by rw [if_pos (Or.inr h1)], rfl, rfl⟩)
    · refine mGo_run (n := 400) ok rfl ?_
      exact mGo_ret ok rfl (Or.inl rfl) (⟨by rw [if_neg (by rintro (z | z); exact h z; exact h1 z)], rfl, rfl⟩)
theorem c_stepBack (hf : fOk F) (hc : cF σ F) (hD : cD σ F bg w k man ps) (hk : k ≤ 20) (hb : bg = true ∧ 0 < k) : mNR g l (d + 4) 16 [.ref 15] lk ex σ (.int 1) (fun σ1 => fr 15 21 σ σ1 ∧ cD σ1 F true false (k - 1) man ps) := by
  obtain ⟨rfl, h0⟩ := hb
  obtain ⟨d1, d2, d3, d4⟩ := hD
  obtain ⟨f1, f2, f3, f4, f5⟩ := d4 rfl
  rw [if_pos rfl] at d3
  obtain ⟨g1, g2⟩ := f1 (k - 1) (by omega)
  have ok : mOkP md_X1_stepBack := ok_at 16 (by decide) rfl
  refine mC_of (md := md_X1_stepBack) rfl (lt_at (by decide)) rfl ?_
  refine mGo_run (n := 400) ok rfl ?_
  rw [d3]
  refine mGo_ifI ok rfl (nI_leI (a := k) (b := 0) (by omega) (by omega)) (fun h => ?_) (fun h => ?_)
  · omega
  · refine mGo_run (n := 400) ok rfl ?_
    rw [d3]
    refine mGo_ifI ok rfl (nI_leI (a := k) (b := 20) (by omega) (by omega)) (fun h1 => ?_) (fun h1 => ?_)
    · refine mGo_run (n := 400) ok rfl ?_
      rw [d3, show nI k - 1 = nI (k - 1) by have := nI_pred (k - 1); rw [show k - 1 + 1 = k by omega] at this; exact this]
      refine mGo_side ok rfl (Or.inl rfl) ?_
      refine mGo_run (n := 400) ok rfl ?_
      rw [show (mWI (mWI σ 15 3 (nI (k - 1))) 15 5 0).1 15 3 = nI (k - 1) by simp [WI_at]]
      refine mGo_side ok rfl (nI_in (by omega) (by omega)) ?_
      rw [nI_clamp (by omega), show (mWI (mWI σ 15 3 (nI (k - 1))) 15 5 0).2.1 16 (k - 1) = (ps (k - 1)).1 from g1]
      refine mGo_run (n := 400) ok rfl ?_
      rw [show (mWI (mWI σ 15 3 (nI (k - 1))) 15 5 0).1 15 3 = nI (k - 1) by simp [WI_at]]
      refine mGo_side ok rfl (nI_in (by omega) (by omega)) ?_
      rw [nI_clamp (by omega), show (mWI (mWI σ 15 3 (nI (k - 1))) 15 5 0).2.1 17 (k - 1) = (ps (k - 1)).2 from g2]
      have fr0 : fr 15 21 σ (mWI (mWI σ 15 3 (nI (k - 1))) 15 5 0) := (fr.refl.WI (by decide) (by decide)).WI (by decide) (by decide)
      refine mGo_callV ok rfl (by omega) (c_setUp18 (d := d) hf (cF_fr fr0 (Or.inl (by decide)) hc) (ps (k - 1)).1 (ps (k - 1)).2) (fun σ1 hσ1 => ?_)
      obtain ⟨s1, s2, s3, s4, s5, s6⟩ := hσ1
      have e15 := (s1 15 (by decide)).1
      have e16 := (s1 16 (by decide)).2.1
      have e17 := (s1 17 (by decide)).2.1
      refine mGo_run (n := 400) ok rfl ?_
      refine mGo_ret ok rfl (Or.inr rfl) ⟨rfl, rfl, fr0.trans (s1.wide (by decide) (by decide)), ?_, ?_, ?_, fun _ => ⟨fun i hi => ?_, ?_, s3, s4, s6⟩⟩
      · rw [e15, WI_at, if_neg (by omega), WI_at, if_neg (by omega)]; exact d1
      · rw [e15, WI_at, if_pos ⟨rfl, rfl⟩]; rfl
      · rw [e15, WI_at, if_neg (by omega), WI_at, if_pos ⟨rfl, rfl⟩, if_pos rfl]
      · rw [e16, e17]; exact f1 i (by omega)
      · rw [s2 4 (by decide), WI_at, if_neg (by omega), WI_at, if_neg (by omega)]; exact f2
    · omega
theorem c_stepBack0 (hD : cD σ F bg w k man ps) (hk : k ≤ 20) (hb : ¬ (bg = true ∧ 0 < k)) : mNP g l d 16 [.ref 15] lk ex σ (.int 0) := by
  obtain ⟨d1, d2, d3, d4⟩ := hD
  have e : (if bg = true then k else 0) = 0 := by
    by_cases z : bg = true
    · rw [if_pos z]
      rcases Nat.eq_zero_or_pos k with y | y
      · exact y
      · exact absurd ⟨z, y⟩ hb
    · rw [if_neg z]
  rw [e] at d3
  have ok : mOkP md_X1_stepBack := ok_at 16 (by decide) rfl
  refine mC_of (md := md_X1_stepBack) rfl (lt_at (by decide)) rfl ?_
  refine mGo_run (n := 400) ok rfl ?_
  rw [d3]
  refine mGo_if ok rfl (fun h => ?_) (fun h => ?_)
  · refine mGo_run (n := 400) ok rfl ?_
    exact mGo_ret ok rfl (Or.inl rfl) (⟨rfl, rfl, rfl⟩)
  · exact absurd (by decide) h
theorem x_begin (hf : fOk F) (hc : cF σ F) (hD : cD σ F bg w k man ps) (f m r : Int32) : mNR g l (d + 5) 93 [.ref 0, .int f, .int m, .int r] lk ex σ (.int (qBeg F f m r).1) (fun σ1 => fr 15 21 σ σ1 ∧ match (qBeg F f m r).2 with
    | none => cD σ1 F bg w k man ps
    | some p => cD σ1 F true false 0 p.1 (fun _ => p.2)) := by
  have hn := hf.2.1
  have ok : mOkP md_X8_begin := ok_at 93 (by decide) rfl
  refine mC_of (md := md_X8_begin) rfl (lt_at (by decide)) rfl ?_
  refine mGo_run (n := 400) ok rfl ?_
  by_cases hfm : 0 ≤ f ∧ f < nI (aN F)
  · obtain ⟨j, hj, rfl⟩ := (i_in (by omega)).mp hfm
    have ha := atk_le (aK F j)
    refine mGo_callP ok rfl (by omega) (c_has1 (d := d) hc.1 hf.2.1 hj) ?_
    refine mGo_if ok rfl (fun h => ?_) (fun h => ?_)
    · exact absurd h (by decide)
    · have bad : ¬ (qMan m ∧ 0 ≤ r ∧ r < nI (atk (aK F j))) → mGo g l (d + 5) md_X8_begin (SH lk ex).length (mTot (SH lk ex)) (37, [some (.ref 0), some (.int (nI j)), some (.int m), some (.int r)], [], SH lk ex, σ) (fun r1 sp σ1 => r1 = some (.int (qBeg F (nI j) m r).1) ∧ sp = SH lk ex ∧ (fr 15 21 σ σ1 ∧ match (qBeg F (nI j) m r).2 with
          | none => cD σ1 F bg w k man ps
          | some p => cD σ1 F true false 0 p.1 (fun _ => p.2))) := by
        intro hb
        have eq : qBeg F (nI j) m r = (-1, none) := by
          unfold qBeg
          rw [if_neg (fun z => z hfm), if_pos (by rw [nI_clamp (by omega)]; exact hb)]
        rw [eq]
        refine mGo_run (n := 400) ok rfl ?_
        exact mGo_ret ok rfl trivial (⟨rfl, rfl, fr.refl, hD⟩)
      refine mGo_run (n := 400) ok rfl ?_
      refine mGo_callP ok rfl (by omega) (c_isManner (d := d) m) ?_
      refine mGo_if ok rfl (fun h1 => ?_) (fun h1 => ?_)
      · exact bad (fun z => by rw [if_pos z.1] at h1; exact absurd h1 (by decide))
      · have hm : qMan m := by
          by_cases z : qMan m
          · exact z
          · rw [if_neg z] at h1; exact absurd rfl h1
        refine mGo_run (n := 400) ok rfl ?_
        refine mGo_if ok rfl (fun h2 => ?_) (fun h2 => ?_)
        · exact bad (fun z => absurd h2 (Int32.not_lt.mpr z.2.1))
        · refine mGo_run (n := 400) ok rfl ?_
          refine mGo_callP ok rfl (by omega) (c_attacksOn (d := d) hf hc hj) ?_
          refine mGo_if ok rfl (fun h3 => ?_) (fun h3 => ?_)
          · have hg : qMan m ∧ 0 ≤ r ∧ r < nI (atk (aK F j)) := ⟨hm, Int32.not_lt.mp h2, h3⟩
            obtain ⟨rn, hrn, rfl⟩ := (i_in (n := atk (aK F j)) (by omega)).mp hg.2
            obtain ⟨mn, hmn, rfl⟩ := qMan_n hm
            have eq : qBeg F (nI j) (nI mn) (nI rn) = (nI (mvs F (atP2 F mn 0 0 j rn).1 (atP2 F mn 0 0 j rn).2).length, some (mn, atP2 F mn 0 0 j rn)) := by
              unfold qBeg
              rw [if_neg (fun z => z hfm), if_neg (by rw [nI_clamp (n := j) (by omega)]; exact fun z => z hg), nI_clamp (n := j) (by omega), nI_clamp (n := mn) (by omega), nI_clamp (n := rn) (by omega)]
            rw [eq]
            have k0 : aK F j ≠ 0 := fun z => by rw [z] at hrn; exact absurd hrn (by simp [atk])
            refine mGo_run (n := 400) ok rfl ?_
            refine mGo_callV ok rfl (by omega) (c_open (d := d) hf hc hj k0 hmn (by omega)) (fun σ1 hσ1 => ?_)
            refine mGo_run (n := 400) ok rfl ?_
            rw [((hσ1.2.2.2.2 rfl).2.2.2.2).1]
            exact mGo_ret ok rfl trivial (⟨rfl, rfl, hσ1⟩)
          · exact bad (fun z => h3 z.2.2)
  · have eq : qBeg F f m r = (-2, none) := by unfold qBeg; rw [if_pos hfm]
    rw [eq]
    refine mGo_callP ok rfl (by omega) (c_has0 (d := d) hc.1 hf.2.1 (fun z => hfm ((i_in (by omega)).mpr z))) ?_
    refine mGo_if ok rfl (fun h => ?_) (fun h => ?_)
    · refine mGo_run (n := 400) ok rfl ?_
      exact mGo_ret ok rfl trivial (⟨rfl, rfl, fr.refl, hD⟩)
    · exact absurd rfl h
theorem bI_0 {b : Bool} : bI b = 0 ↔ b = false := by cases b <;> decide
theorem x_claims (hD : cD σ F bg w k man ps) : mNP g l (d + 1) 94 [.ref 0] lk ex σ (.long (if (bg && !w) = true then (ps k).1 else -9223372036854775808)) := by
  have ok : mOkP md_X8_claims := ok_at 94 (by decide) rfl
  refine mC_of (md := md_X8_claims) rfl (lt_at (by decide)) rfl ?_
  refine mGo_run (n := 400) ok rfl ?_
  refine mGo_callP ok rfl (by omega) (c_isOn (d := d) hD) ?_
  refine mGo_ifI ok rfl (bI_0) (fun h => ?_) (fun h => ?_)
  · refine mGo_run (n := 400) ok rfl ?_
    exact mGo_ret ok rfl trivial (⟨by rw [h]; rfl, rfl, rfl⟩)
  · have e : (bg && !w) = true := by simpa using h
    have eb : bg = true := by cases bg; simp at e; rfl
    refine mGo_run (n := 400) ok rfl ?_
    rw [(hD.2.2.2 eb).2.2.1]
    exact mGo_ret ok rfl trivial (⟨by rw [if_pos e], rfl, rfl⟩)
theorem x_defences (hD : cD σ F bg w k man ps) : mNP g l (d + 1) 95 [.ref 0] lk ex σ (.long (if (bg && !w) = true then (ps k).2 else -9223372036854775808)) := by
  have ok : mOkP md_X8_defences := ok_at 95 (by decide) rfl
  refine mC_of (md := md_X8_defences) rfl (lt_at (by decide)) rfl ?_
  refine mGo_run (n := 400) ok rfl ?_
  refine mGo_callP ok rfl (by omega) (c_isOn (d := d) hD) ?_
  refine mGo_ifI ok rfl (bI_0) (fun h => ?_) (fun h => ?_)
  · refine mGo_run (n := 400) ok rfl ?_
    exact mGo_ret ok rfl trivial (⟨by rw [h]; rfl, rfl, rfl⟩)
  · have e : (bg && !w) = true := by simpa using h
    have eb : bg = true := by cases bg; simp at e; rfl
    refine mGo_run (n := 400) ok rfl ?_
    rw [(hD.2.2.2 eb).2.2.2.1]
    exact mGo_ret ok rfl trivial (⟨by rw [if_pos e], rfl, rfl⟩)
theorem x_moveCount (hD : cD σ F bg w k man ps) : mNP g l (d + 1) 96 [.ref 0] lk ex σ (.int (if (bg && !w) = true then nI (mvs F (ps k).1 (ps k).2).length else -7)) := by
  have ok : mOkP md_X8_moveCount := ok_at 96 (by decide) rfl
  refine mC_of (md := md_X8_moveCount) rfl (lt_at (by decide)) rfl ?_
  refine mGo_run (n := 400) ok rfl ?_
  refine mGo_callP ok rfl (by omega) (c_isOn (d := d) hD) ?_
  refine mGo_ifI ok rfl (bI_0) (fun h => ?_) (fun h => ?_)
  · refine mGo_run (n := 400) ok rfl ?_
    exact mGo_ret ok rfl trivial (⟨by rw [h]; rfl, rfl, rfl⟩)
  · have e : (bg && !w) = true := by simpa using h
    have eb : bg = true := by cases bg; simp at e; rfl
    refine mGo_run (n := 400) ok rfl ?_
    rw [(hD.2.2.2 eb).2.2.2.2.1]
    exact mGo_ret ok rfl trivial (⟨by rw [if_pos e], rfl, rfl⟩)
/-- what is told of a move -/
def qMove (F : aF) (p : Int64 × Int64) (m x : Int32) : Int32 := if ¬ (0 ≤ x ∧ x ≤ 2) then -1 else match mvA (mvs F p.1 p.2) m with
  | none => -5
  | some q => if x = 0 then nI q.1 else if x = 1 then nI q.2 else nI (rpN F q)
theorem x_move (hf : fOk F) (hc : cF σ F) (hD : cD σ F bg w k man ps) (m x : Int32) : mNP g l (d + 3) 97 [.ref 0, .int m, .int x] lk ex σ (.int (if (bg && !w) = true then qMove F (ps k) m x else -7)) := by
  have hml := mvs_len hf (ps k).1 (ps k).2
  have ok : mOkP md_X8_move := ok_at 97 (by decide) rfl
  refine mC_of (md := md_X8_move) rfl (lt_at (by decide)) rfl ?_
  refine mGo_run (n := 400) ok rfl ?_
  refine mGo_callP ok rfl (by omega) (c_isOn (d := d) hD) ?_
  refine mGo_ifI ok rfl (bI_0) (fun h => ?_) (fun h => ?_)
  · refine mGo_run (n := 400) ok rfl ?_
    exact mGo_ret ok rfl trivial (⟨by rw [h]; rfl, rfl, rfl⟩)
  · have e : (bg && !w) = true := by simpa using h
    have eb : bg = true := by cases bg; simp at e; rfl
    obtain ⟨f1, f2, f3, f4, f5⟩ := hD.2.2.2 eb
    rw [if_pos e]
    have bad : ¬ (0 ≤ x ∧ x ≤ 2) → mGo g l (d + 3) md_X8_move (SH lk ex).length (mTot (SH lk ex)) (22, [some (.ref 0), some (.int m), some (.int x), none], [], SH lk ex, σ) (fun r1 sp σ1 => r1 = some (.int (qMove F (ps k) m x)) ∧ sp = SH lk ex ∧ σ1 = σ) := by
      intro hb
      refine mGo_run (n := 400) ok rfl ?_
      exact mGo_ret ok rfl trivial (⟨by unfold qMove; rw [if_pos hb], rfl, rfl⟩)
    refine mGo_run (n := 400) ok rfl ?_
    refine mGo_if ok rfl (fun h1 => ?_) (fun h1 => ?_)
    · exact bad (fun z => absurd h1 (Int32.not_lt.mpr z.1))
    · refine mGo_run (n := 400) ok rfl ?_
      refine mGo_if ok rfl (fun h2 => ?_) (fun h2 => ?_)
      · have hg : 0 ≤ x ∧ x ≤ 2 := ⟨Int32.not_lt.mp h1, h2⟩
        refine mGo_run (n := 400) ok rfl ?_
        rcases mvA_cases (mvs F (ps k).1 (ps k).2) hml m with ⟨e1, e2⟩ | ⟨i, q, rfl, hi, e1⟩
        · refine mGo_callP ok rfl (by omega) (c_hasMove018 (d := d) f5.1 (by omega) e2) ?_
          refine mGo_if ok rfl (fun h3 => ?_) (fun h3 => ?_)
          · refine mGo_run (n := 400) ok rfl ?_
            exact mGo_ret ok rfl trivial (⟨by unfold qMove; rw [if_neg (fun z => z hg), e1], rfl, rfl⟩)
          · exact absurd rfl h3
        · have hil := (List.getElem?_eq_some_iff.mp hi).1
          have ho := mvs_at hf hi
          obtain ⟨b1, b2⟩ := f5.2 i q hi
          have ev : qMove F (ps k) (nI i) x = if x = 0 then nI q.1 else if x = 1 then nI q.2 else nI (rpN F q) := by unfold qMove; rw [if_neg (fun z => z hg), e1]
          rw [ev]
          refine mGo_callP ok rfl (by omega) (c_hasMove118 (d := d) f5.1 (by omega) hil) ?_
          refine mGo_if ok rfl (fun h3 => ?_) (fun h3 => ?_)
          · exact absurd h3 (by decide)
          · refine mGo_run (n := 400) ok rfl ?_
            refine mGo_if ok rfl (fun h4 => ?_) (fun h4 => ?_)
            · refine mGo_run (n := 400) ok rfl ?_
              refine mGo_callP ok rfl (by omega) (c_repliesTo18 (d := d) hf hc f5 (by omega) hi ho) ?_
              refine mGo_run (n := 400) ok rfl ?_
              exact mGo_ret ok rfl trivial (⟨by rw [h4, if_neg (by decide), if_neg (by decide)], rfl, rfl⟩)
            · refine mGo_run (n := 400) ok rfl ?_
              refine mGo_if ok rfl (fun h5 => ?_) (fun h5 => ?_)
              · refine mGo_run (n := 400) ok rfl ?_
                refine mGo_side ok rfl (nI_in (by omega) (by omega)) ?_
                rw [nI_clamp (by omega), b1]
                refine mGo_run (n := 400) ok rfl ?_
                exact mGo_ret ok rfl trivial (⟨by rw [if_pos h5], rfl, rfl⟩)
              · have e5 : x = 1 := by
                  obtain ⟨n, hn, rfl⟩ := nI_of2 (n := 2) (M := 2) (by decide) (Int32.not_lt.mpr hg.1) hg.2
                  have n0 : n ≠ 0 := fun z => h5 (by rw [z]; rfl)
                  have n2 : n ≠ 2 := fun z => h4 (by rw [z]; rfl)
                  rw [show n = 1 by omega]; rfl
                refine mGo_run (n := 400) ok rfl ?_
                refine mGo_side ok rfl (nI_in (by omega) (by omega)) ?_
                rw [nI_clamp (by omega), b2]
                refine mGo_run (n := 400) ok rfl ?_
                exact mGo_ret ok rfl trivial (⟨by rw [if_neg h5, if_pos e5], rfl, rfl⟩)
      · exact bad (fun z => h2 z.2)
/-- play and take back: the answer and the dialogue afterwards -/
def qPlay (F : aF) (bg w : Bool) (k man : Nat) (ps : Nat → Int64 × Int64) (m r : Int32) : Int32 × Bool × Nat × (Nat → Int64 × Int64) := if (bg && !w) = true then aPl F k man ps m r else (-7, w, k, ps)
theorem c_advance0 (hD : cD σ F bg w k man ps) (hb : ¬ (bg && !w) = true) (m r : Int32) : mNP g l (d + 1) 15 [.ref 15, .int m, .int r] lk ex σ (.int (-7)) := by
  have ok : mOkP md_X1_advance := ok_at 15 (by decide) rfl
  refine mC_of (md := md_X1_advance) rfl (lt_at (by decide)) rfl ?_
  refine mGo_run (n := 400) ok rfl ?_
  refine mGo_callP ok rfl (by omega) (c_isOn (d := d) hD) ?_
  refine mGo_ifI ok rfl (bI_0) (fun h => ?_) (fun h => ?_)
  · refine mGo_run (n := 400) ok rfl ?_
    exact mGo_ret ok rfl trivial (⟨rfl, rfl, rfl⟩)
  · exact absurd (by simpa using h) hb
theorem c_advanceq (hf : fOk F) (hc : cF σ F) (hD : cD σ F bg w k man ps) (hk : k ≤ 20) (hm1 : man ≤ 1) (m r : Int32) : mNR g l (d + 4) 15 [.ref 15, .int m, .int r] lk ex σ (.int (qPlay F bg w k man ps m r).1) (fun σ1 => fr 15 21 σ σ1 ∧ cD σ1 F bg (qPlay F bg w k man ps m r).2.1 (qPlay F bg w k man ps m r).2.2.1 man (qPlay F bg w k man ps m r).2.2.2) := by
  unfold qPlay
  by_cases h : (bg && !w) = true
  · rw [if_pos h]
    have eb : bg = true := by cases bg; simp at h; rfl
    have ew : w = false := by cases w; rfl; simp at h
    subst eb; subst ew
    exact c_advance (d := d) hf hc hD hk hm1 m r
  · rw [if_neg h]
    exact (c_advance0 (d := d + 3) hD h m r).post rfl (fun σ1 e => by rw [e]; exact ⟨fr.refl, hD⟩)
theorem x_play (hf : fOk F) (hc : cF σ F) (hD : cD σ F bg w k man ps) (hk : k ≤ 20) (hm1 : man ≤ 1) (m r : Int32) : mNR g l (d + 5) 98 [.ref 0, .int m, .int r] lk ex σ (.int (qPlay F bg w k man ps m r).1) (fun σ1 => fr 15 21 σ σ1 ∧ cD σ1 F bg (qPlay F bg w k man ps m r).2.1 (qPlay F bg w k man ps m r).2.2.1 man (qPlay F bg w k man ps m r).2.2.2) := by
  have ok : mOkP md_X8_play := ok_at 98 (by decide) rfl
  refine mC_of (md := md_X8_play) rfl (lt_at (by decide)) rfl ?_
  refine mGo_run (n := 400) ok rfl ?_
  refine mGo_callR ok rfl (by omega) (c_advanceq (d := d) hf hc hD hk hm1 m r) (fun σ1 hσ1 => ?_)
  refine mGo_run (n := 400) ok rfl ?_
  exact mGo_ret ok rfl trivial (⟨rfl, rfl, hσ1⟩)
theorem x_takeBack (hf : fOk F) (hc : cF σ F) (hD : cD σ F bg w k man ps) (hk : k ≤ 20) : mNR g l (d + 5) 99 [.ref 0] lk ex σ (.int (if bg = true ∧ 0 < k then nI (k - 1) else -5)) (fun σ1 => fr 15 21 σ σ1 ∧ if bg = true ∧ 0 < k then cD σ1 F true false (k - 1) man ps else cD σ1 F bg w k man ps) := by
  have ok : mOkP md_X8_takeBack := ok_at 99 (by decide) rfl
  refine mC_of (md := md_X8_takeBack) rfl (lt_at (by decide)) rfl ?_
  refine mGo_run (n := 400) ok rfl ?_
  by_cases h : bg = true ∧ 0 < k
  · refine mGo_callR ok rfl (by omega) (c_stepBack (d := d) hf hc hD hk h) (fun σ1 hσ1 => ?_)
    refine mGo_if ok rfl (fun h1 => ?_) (fun h1 => ?_)
    · exact absurd h1 (by decide)
    · refine mGo_run (n := 400) ok rfl ?_
      have e := hσ1.2.2.2.1
      rw [if_pos rfl] at e
      rw [e]
      exact mGo_ret ok rfl trivial (⟨by rw [if_pos h], rfl, hσ1.1, by rw [if_pos h]; exact hσ1.2⟩)
  · refine mGo_callP ok rfl (by omega) (c_stepBack0 (d := d) hD hk h) ?_
    refine mGo_if ok rfl (fun h1 => ?_) (fun h1 => ?_)
    · refine mGo_run (n := 400) ok rfl ?_
      exact mGo_ret ok rfl trivial (⟨by rw [if_neg h], rfl, fr.refl, by rw [if_neg h]; exact hD⟩)
    · exact absurd rfl h1
end T
end
section
/-! the reference: the dialogue -/
def rD (σ : mHp) (bg w : Bool) (k man : Nat) (ps : Nat → Int64 × Int64) : Prop := σ.1 48 24 = bI bg ∧ (bg = true → σ.1 48 25 = bI w ∧ σ.1 48 26 = nI k ∧ σ.1 48 17 = nI man ∧ ∀ i, i ≤ k → σ.2.1 60 i = (ps i).1 ∧ σ.2.1 61 i = (ps i).2)
theorem rD_fr {lo hi : Nat} {ks : List Nat} {σ σ1 : mHp} {bg w : Bool} {k man : Nat} {ps : Nat → Int64 × Int64} (h : fr lo hi σ σ1) (hm : fm ks σ σ1) (hlo : 62 ≤ lo ∨ hi ≤ 60) (hk : 24 ∉ ks ∧ 25 ∉ ks ∧ 26 ∉ ks ∧ 17 ∉ ks) (hd : rD σ bg w k man ps) : rD σ1 bg w k man ps := by
  obtain ⟨d1, d2⟩ := hd
  obtain ⟨k1, k2, k3, k4⟩ := hk
  have e60 := h 60 (by omega)
  have e61 := h 61 (by omega)
  refine ⟨by rw [(hm 24 k1).1]; exact d1, fun z => ?_⟩
  obtain ⟨g1, g2, g3, g4⟩ := d2 z
  exact ⟨by rw [(hm 25 k2).1]; exact g1, by rw [(hm 26 k3).1]; exact g2, by rw [(hm 17 k4).1]; exact g3, fun i hi => by rw [e60.2.1, e61.2.1]; exact g4 i hi⟩
/-- a frame away from the reference's own numbers -/
theorem fm_fr {lo hi : Nat} {σ σ1 : mHp} (h : fr lo hi σ σ1) (h1 : 49 ≤ lo ∨ hi ≤ 48) : fm [] σ σ1 := fun k _ => by
  have e := h 48 (by omega)
  rw [e.1, e.2.1]; exact ⟨rfl, rfl⟩
theorem mF_f2 {lo hi : Nat} {ks : List Nat} {σ σ1 : mHp} {F : aF} (h : fr lo hi σ σ1) (hm : fm ks σ σ1) (hlo : 52 ≤ lo ∨ hi ≤ 49) (hk : 0 ∉ ks) (hF : mF σ F) : mF σ1 F := by
  refine ⟨by rw [(hm 0 hk).1]; exact hF.1, fun j hj => ?_⟩
  rw [(h 49 (by omega)).1, (h 50 (by omega)).1, (h 51 (by omega)).1]
  exact hF.2 j hj
section T
variable {g : mG} {l : Launch} {d : Nat} {lk : Nat} {ex : mSh} {σ : mHp} {F : aF} {bg w : Bool} {k man : Nat} {ps : Nat → Int64 × Int64}
theorem m_isPlaying (hD : rD σ bg w k man ps) : mNP g l d 170 [.ref 48] lk ex σ (.int (bI (bg && !w))) := by
  obtain ⟨d1, d2⟩ := hD
  have ok : mOkP md_X9_isPlaying := ok_at 170 (by decide) rfl
  refine mC_of (md := md_X9_isPlaying) rfl (lt_at (by decide)) rfl ?_
  refine mGo_run (n := 400) ok rfl ?_
  rw [d1]
  refine mGo_ifI ok rfl (bI_0) (fun h => ?_) (fun h => ?_)
  · refine mGo_run (n := 400) ok rfl ?_
    exact mGo_ret ok rfl (Or.inl rfl) (⟨by rw [h]; rfl, rfl, rfl⟩)
  · have eb : bg = true := by simpa using h
    obtain ⟨g1, g2, g3, g4⟩ := d2 eb
    refine mGo_run (n := 400) ok rfl ?_
    rw [g1]
    refine mGo_ifI ok rfl (bI_0) (fun h1 => ?_) (fun h1 => ?_)
    · refine mGo_run (n := 400) ok rfl ?_
      exact mGo_ret ok rfl (Or.inr rfl) (⟨by rw [eb, h1]; rfl, rfl, rfl⟩)
    · have ew : w = true := by simpa using h1
      refine mGo_run (n := 400) ok rfl ?_
      exact mGo_ret ok rfl (Or.inl rfl) (⟨by rw [eb, ew]; rfl, rfl, rfl⟩)
theorem m_now (hD : rD σ true w k man ps) (hk : k ≤ 20) : mNV g l d 171 [.ref 48] lk ex σ (fun σ1 => σ1 = mWL (mWL σ 48 15 (ps k).1) 48 16 (ps k).2) := by
  obtain ⟨d1, d2⟩ := hD
  obtain ⟨g1, g2, g3, g4⟩ := d2 rfl
  obtain ⟨p1, p2⟩ := g4 k (Nat.le_refl _)
  have ok : mOkP md_X9_now := ok_at 171 (by decide) rfl
  refine mC_of (md := md_X9_now) rfl (lt_at (by decide)) rfl ?_
  refine mGo_run (n := 400) ok rfl ?_
  rw [g2]
  refine mGo_side ok rfl (nI_in (by omega) (by omega)) ?_
  rw [nI_clamp (n := k) (by omega), p1]
  refine mGo_run (n := 400) ok rfl ?_
  rw [show (mWL σ 48 15 (ps k).1).1 48 26 = nI k from g2]
  refine mGo_side ok rfl (nI_in (by omega) (by omega)) ?_
  rw [nI_clamp (by omega), show (mWL σ 48 15 (ps k).1).2.1 61 k = (ps k).2 by rw [WL_at, if_neg (by omega)]; exact p2]
  refine mGo_run (n := 400) ok rfl ?_
  exact mGo_ret ok rfl trivial (⟨rfl, rfl, rfl⟩)
theorem m_start (hf : fOk F) (hm : mF σ F) {f mn r : Nat} (hfn : f < aN F) (k0 : aK F f ≠ 0) (hm1 : mn ≤ 1) (hr : r < 4) : mNV g l (d + 1) 172 [.ref 48, .int (nI f), .int (nI mn), .int (nI r)] lk ex σ (fun σ1 => fr 48 62 σ σ1 ∧ fm [15, 16, 17, 24, 25, 26] σ σ1 ∧ mF σ1 F ∧ rD σ1 true false 0 mn (fun _ => atP2 F mn 0 0 f r) ∧ mQ σ1 (atP2 F mn 0 0 f r).1 (atP2 F mn 0 0 f r).2) := by
  have ok : mOkP md_X9_start := ok_at 172 (by decide) rfl
  refine mC_of (md := md_X9_start) rfl (lt_at (by decide)) rfl ?_
  refine mGo_run (n := 400) ok rfl ?_
  have f0 : fr 48 49 σ (mWL (mWL (mWI σ 48 17 (nI mn)) 48 15 0) 48 16 0) := ((fr.refl.WI (by decide) (by decide)).WL (by decide) (by decide)).WL (by decide) (by decide)
  have m0 : fm [15, 16, 17] σ (mWL (mWL (mWI σ 48 17 (nI mn)) 48 15 0) 48 16 0) := ((fm.refl.WI (fun _ => by decide)).WL (fun _ => by decide)).WL (fun _ => by decide)
  refine mGo_callV ok rfl (by omega) (m_attack (d := d) hf (mF_f2 f0 m0 (by omega) (by decide) hm) (c := 0) (o := 0) ⟨by simp [WL_at], by simp [WL_at]⟩ (man := mn) (show (mWI σ 48 17 (nI mn)).1 48 17 = nI mn by simp [WI_at]) hm1 hfn k0 (r := r) (by omega)) (fun σ1 hσ1 => ?_)
  obtain ⟨f1, m1, q1, q2⟩ := hσ1
  refine mGo_run (n := 400) ok rfl ?_
  refine mGo_side ok rfl (Or.inr rfl) ?_
  refine mGo_run (n := 400) ok rfl ?_
  refine mGo_side ok rfl (Or.inl rfl) ?_
  refine mGo_run (n := 400) ok rfl ?_
  refine mGo_side ok rfl (nI_in (c := 0) (by omega) (by omega)) ?_
  rw [show (0 : Int32) = nI 0 from rfl, nI_clamp (n := 0) (by omega)]
  refine mGo_run (n := 400) ok rfl ?_
  rw [show (mWI (mWI (mWI σ1 48 24 1) 48 25 (nI 0)) 48 26 (nI 0)).2.1 48 15 = (atP2 F mn 0 0 f r).1 from q1]
  refine mGo_side ok rfl (nI_in (c := 0) (by omega) (by omega)) ?_
  rw [show (0 : Int32) = nI 0 from rfl, nI_clamp (n := 0) (by omega)]
  refine mGo_run (n := 400) ok rfl ?_
  rw [show (mWL (mWI (mWI (mWI σ1 48 24 1) 48 25 (nI 0)) 48 26 (nI 0)) 60 0 (atP2 F mn 0 0 f r).1).2.1 48 16 = (atP2 F mn 0 0 f r).2 by rw [WL_at, if_neg (by omega)]; exact q2]
  have ff : fr 48 62 σ (mWL (mWL (mWI (mWI (mWI σ1 48 24 1) 48 25 (nI 0)) 48 26 (nI 0)) 60 0 (atP2 F mn 0 0 f r).1) 61 0 (atP2 F mn 0 0 f r).2) := ((((((f0.trans f1).wide (by decide) (by decide)).WI (by decide) (by decide)).WI (by decide) (by decide)).WI (by decide) (by decide)).WL (by decide) (by decide)).WL (by decide) (by decide)
  have mm : fm [15, 16, 17, 24, 25, 26] σ (mWL (mWL (mWI (mWI (mWI σ1 48 24 1) 48 25 (nI 0)) 48 26 (nI 0)) 60 0 (atP2 F mn 0 0 f r).1) 61 0 (atP2 F mn 0 0 f r).2) := ((((((m0.wide (by decide)).trans (m1.wide (by decide))).WI (fun _ => by decide)).WI (fun _ => by decide)).WI (fun _ => by decide)).WL (fun z => absurd z (by decide))).WL (fun z => absurd z (by decide))
  have hmF : mF (mWL (mWL (mWI (mWI (mWI σ1 48 24 1) 48 25 (nI 0)) 48 26 (nI 0)) 60 0 (atP2 F mn 0 0 f r).1) 61 0 (atP2 F mn 0 0 f r).2) F := by
    have h1 := mF_f2 f1 m1 (by omega) (by decide) (mF_f2 f0 m0 (by omega) (by decide) hm)
    refine ⟨?_, fun j hj => h1.2 j hj⟩
    show (mWI (mWI (mWI σ1 48 24 1) 48 25 (nI 0)) 48 26 (nI 0)).1 48 0 = _
    simp only [WI_at]
    exact h1.1
  refine mGo_ret ok rfl trivial ⟨rfl, rfl, ff, mm, hmF, ⟨?_, fun _ => ⟨?_, ?_, ?_, fun i hi => ?_⟩⟩, ?_, ?_⟩
  · show (mWI (mWI (mWI σ1 48 24 1) 48 25 (nI 0)) 48 26 (nI 0)).1 48 24 = _; simp [WI_at, bI]
  · show (mWI (mWI (mWI σ1 48 24 1) 48 25 (nI 0)) 48 26 (nI 0)).1 48 25 = _; simp [WI_at, bI]; rfl
  · show (mWI (mWI (mWI σ1 48 24 1) 48 25 (nI 0)) 48 26 (nI 0)).1 48 26 = _; simp [WI_at]
  · show (mWI (mWI (mWI σ1 48 24 1) 48 25 (nI 0)) 48 26 (nI 0)).1 48 17 = _
    rw [WI_at, if_neg (by omega), WI_at, if_neg (by omega), WI_at, if_neg (by omega), (m1 17 (by decide)).1]
    show (mWI σ 48 17 (nI mn)).1 48 17 = _
    simp [WI_at]
  · have : i = 0 := by omega
    subst this
    constructor <;> simp [WL_at]
  · rw [WL_at, if_neg (by omega), WL_at, if_neg (by omega)]; exact q1
  · rw [WL_at, if_neg (by omega), WL_at, if_neg (by omega)]; exact q2
end T
end
section
/-! the reference: the dialogue's public methods -/
/-- what the reference changes while it looks at a dialogue: its position and its move -/
def frL (σ σ1 : mHp) : Prop := fr 48 49 σ σ1 ∧ fm [15, 16, 18, 19] σ σ1
theorem frL.refl {σ : mHp} : frL σ σ := ⟨fr.refl, fm.refl⟩
theorem frL.trans {σ σ1 σ2 : mHp} (h1 : frL σ σ1) (h2 : frL σ1 σ2) : frL σ σ2 := ⟨h1.1.trans h2.1, h1.2.trans h2.2⟩
theorem frL_now {σ : mHp} (a b : Int64) : frL σ (mWL (mWL σ 48 15 a) 48 16 b) := ⟨(fr.refl.WL (by decide) (by decide)).WL (by decide) (by decide), (fm.refl.WL (fun _ => by decide)).WL (fun _ => by decide)⟩
theorem frL_mv {σ : mHp} (a b : Int32) : frL σ (mWI (mWI σ 48 18 a) 48 19 b) := ⟨(fr.refl.WI (by decide) (by decide)).WI (by decide) (by decide), (fm.refl.WI (fun _ => by decide)).WI (fun _ => by decide)⟩
theorem frL.mF {σ σ1 : mHp} {F : aF} (h : frL σ σ1) (hm : mF σ F) : mF σ1 F := mF_f2 h.1 h.2 (by omega) (by decide) hm
theorem frL.rD {σ σ1 : mHp} {bg w : Bool} {k man : Nat} {ps : Nat → Int64 × Int64} (h : frL σ σ1) (hd : rD σ bg w k man ps) : rD σ1 bg w k man ps := rD_fr h.1 h.2 (by omega) (by decide) hd
theorem mV_mk {σ : mHp} (q : Nat × Nat) : mV (mWI (mWI σ 48 18 (nI q.1)) 48 19 (nI q.2)) q := ⟨by simp [WI_at], by simp [WI_at]⟩
section T
variable {g : mG} {l : Launch} {d : Nat} {lk : Nat} {ex : mSh} {σ : mHp} {F : aF} {bg w : Bool} {k man : Nat} {ps : Nat → Int64 × Int64}
theorem y_begin (hf : fOk F) (hm : mF σ F) (hD : rD σ bg w k man ps) (f m r : Int32) : mNR g l (d + 3) 173 [.ref 48, .int f, .int m, .int r] lk ex σ (.int (qBeg F f m r).1) (fun σ1 => fr 48 62 σ σ1 ∧ fm [15, 16, 17, 24, 25, 26] σ σ1 ∧ mF σ1 F ∧ match (qBeg F f m r).2 with
    | none => rD σ1 bg w k man ps
    | some p => rD σ1 true false 0 p.1 (fun _ => p.2)) := by
  have hn := hf.2.1
  have ok : mOkP md_X9_begin := ok_at 173 (by decide) rfl
  refine mC_of (md := md_X9_begin) rfl (lt_at (by decide)) rfl ?_
  refine mGo_run (n := 400) ok rfl ?_
  by_cases hfm : 0 ≤ f ∧ f < nI (aN F)
  · obtain ⟨j, hj, rfl⟩ := (i_in (by omega)).mp hfm
    have ha := atk_le (aK F j)
    refine mGo_callP ok rfl (by omega) (m_isFormula1 (d := d) hm.1 hf.1 hf.2.1 hj) ?_
    refine mGo_if ok rfl (fun h => ?_) (fun h => ?_)
    · exact absurd h (by decide)
    · have bad : ¬ (qMan m ∧ 0 ≤ r ∧ r < nI (atk (aK F j))) → mGo g l (d + 3) md_X9_begin (SH lk ex).length (mTot (SH lk ex)) (33, [some (.ref 48), some (.int (nI j)), some (.int m), some (.int r)], [], SH lk ex, σ) (fun r1 sp σ1 => r1 = some (.int (qBeg F (nI j) m r).1) ∧ sp = SH lk ex ∧ (fr 48 62 σ σ1 ∧ fm [15, 16, 17, 24, 25, 26] σ σ1 ∧ mF σ1 F ∧ match (qBeg F (nI j) m r).2 with
          | none => rD σ1 bg w k man ps
          | some p => rD σ1 true false 0 p.1 (fun _ => p.2))) := by
        intro hb
        have eq : qBeg F (nI j) m r = (-1, none) := by
          unfold qBeg
          rw [if_neg (fun z => z hfm), if_pos (by rw [nI_clamp (by omega)]; exact hb)]
        rw [eq]
        refine mGo_run (n := 400) ok rfl ?_
        exact mGo_ret ok rfl trivial (⟨rfl, rfl, fr.refl, fm.refl, hm, hD⟩)
      refine mGo_run (n := 400) ok rfl ?_
      refine mGo_callP ok rfl (by omega) (m_isManner (d := d) m) ?_
      refine mGo_if ok rfl (fun h1 => ?_) (fun h1 => ?_)
      · exact bad (fun z => by rw [if_pos z.1] at h1; exact absurd h1 (by decide))
      · have hman : qMan m := by
          by_cases z : qMan m
          · exact z
          · rw [if_neg z] at h1; exact absurd rfl h1
        refine mGo_run (n := 400) ok rfl ?_
        refine mGo_callP ok rfl (by omega) (m_attacksOn (d := d) hf hm hj) ?_
        refine mGo_run (n := 400) ok rfl ?_
        refine mGo_callP ok rfl (by omega) (m_isIn (d := d) r 0 (nI (atk (aK F j)) - 1)) ?_
        by_cases hg : qMan m ∧ 0 ≤ r ∧ r < nI (atk (aK F j))
        · obtain ⟨rn, hrn, rfl⟩ := (i_in (n := atk (aK F j)) (by omega)).mp hg.2
          obtain ⟨mn, hmn, rfl⟩ := qMan_n hman
          have eq : qBeg F (nI j) (nI mn) (nI rn) = (nI (mvs F (atP2 F mn 0 0 j rn).1 (atP2 F mn 0 0 j rn).2).length, some (mn, atP2 F mn 0 0 j rn)) := by
            unfold qBeg
            rw [if_neg (fun z => z hfm), if_neg (by rw [nI_clamp (n := j) (by omega)]; exact fun z => z hg), nI_clamp (n := j) (by omega), nI_clamp (n := mn) (by omega), nI_clamp (n := rn) (by omega)]
          rw [eq, if_pos ⟨hg.2.1, (i_le1 (by omega) (by omega)).mpr hg.2.2⟩]
          have k0 : aK F j ≠ 0 := fun z => by rw [z] at hrn; exact absurd hrn (by simp [atk])
          refine mGo_if ok rfl (fun h2 => ?_) (fun h2 => ?_)
          · exact absurd h2 (by decide)
          · refine mGo_run (n := 400) ok rfl ?_
            refine mGo_callV ok rfl (by omega) (m_start (d := d) hf hm hj k0 hmn (by omega)) (fun σ1 hσ1 => ?_)
            refine mGo_run (n := 400) ok rfl ?_
            refine mGo_callP ok rfl (by omega) (m_countMoves (d := d) hf hσ1.2.2.1 hσ1.2.2.2.2) ?_
            refine mGo_run (n := 400) ok rfl ?_
            exact mGo_ret ok rfl trivial (⟨rfl, rfl, hσ1.1, hσ1.2.1, hσ1.2.2.1, hσ1.2.2.2.1⟩)
        · have no : ¬ (0 ≤ r ∧ r ≤ nI (atk (aK F j)) - 1) := by
            intro z
            rcases Nat.eq_zero_or_pos (atk (aK F j)) with y | y
            · rw [y] at z
              have : (0 : Int32) ≤ nI 0 - 1 := Int32.le_trans z.1 z.2
              exact absurd this (by decide)
            · exact hg ⟨hman, z.1, (i_le1 (by omega) (by omega)).mp z.2⟩
          rw [if_neg no]
          refine mGo_if ok rfl (fun h2 => ?_) (fun h2 => ?_)
          · exact bad hg
          · exact absurd rfl h2
  · have eq : qBeg F f m r = (-2, none) := by unfold qBeg; rw [if_pos hfm]
    rw [eq]
    refine mGo_callP ok rfl (by omega) (m_isFormula0 (d := d) hm.1 hf.1 hf.2.1 (fun z => hfm ((i_in (by omega)).mpr z))) ?_
    refine mGo_if ok rfl (fun h => ?_) (fun h => ?_)
    · refine mGo_run (n := 400) ok rfl ?_
      exact mGo_ret ok rfl trivial (⟨rfl, rfl, fr.refl, fm.refl, hm, hD⟩)
    · exact absurd rfl h
theorem y_claims (hD : rD σ bg w k man ps) (hk : k ≤ 20) : mNP g l (d + 1) 174 [.ref 48] lk ex σ (.long (if (bg && !w) = true then (ps k).1 else -9223372036854775808)) := by
  have ok : mOkP md_X9_claims := ok_at 174 (by decide) rfl
  refine mC_of (md := md_X9_claims) rfl (lt_at (by decide)) rfl ?_
  refine mGo_run (n := 400) ok rfl ?_
  refine mGo_callP ok rfl (by omega) (m_isPlaying (d := d) hD) ?_
  refine mGo_ifI ok rfl (bI_0) (fun h => ?_) (fun h => ?_)
  · refine mGo_run (n := 400) ok rfl ?_
    exact mGo_ret ok rfl trivial (⟨by rw [h]; rfl, rfl, rfl⟩)
  · have e : (bg && !w) = true := by simpa using h
    have eb : bg = true := by cases bg; simp at e; rfl
    obtain ⟨g1, g2, g3, g4⟩ := hD.2 eb
    refine mGo_run (n := 400) ok rfl ?_
    rw [g2]
    refine mGo_side ok rfl (nI_in (by omega) (by omega)) ?_
    rw [nI_clamp (n := k) (by omega), (g4 k (Nat.le_refl _)).1]
    refine mGo_run (n := 400) ok rfl ?_
    exact mGo_ret ok rfl trivial (⟨by rw [if_pos e], rfl, rfl⟩)
theorem y_defences (hD : rD σ bg w k man ps) (hk : k ≤ 20) : mNP g l (d + 1) 175 [.ref 48] lk ex σ (.long (if (bg && !w) = true then (ps k).2 else -9223372036854775808)) := by
  have ok : mOkP md_X9_defences := ok_at 175 (by decide) rfl
  refine mC_of (md := md_X9_defences) rfl (lt_at (by decide)) rfl ?_
  refine mGo_run (n := 400) ok rfl ?_
  refine mGo_callP ok rfl (by omega) (m_isPlaying (d := d) hD) ?_
  refine mGo_ifI ok rfl (bI_0) (fun h => ?_) (fun h => ?_)
  · refine mGo_run (n := 400) ok rfl ?_
    exact mGo_ret ok rfl trivial (⟨by rw [h]; rfl, rfl, rfl⟩)
  · have e : (bg && !w) = true := by simpa using h
    have eb : bg = true := by cases bg; simp at e; rfl
    obtain ⟨g1, g2, g3, g4⟩ := hD.2 eb
    refine mGo_run (n := 400) ok rfl ?_
    rw [g2]
    refine mGo_side ok rfl (nI_in (by omega) (by omega)) ?_
    rw [nI_clamp (n := k) (by omega), (g4 k (Nat.le_refl _)).2]
    refine mGo_run (n := 400) ok rfl ?_
    exact mGo_ret ok rfl trivial (⟨by rw [if_pos e], rfl, rfl⟩)
theorem on_bg (h : (bg && !w) = true) : bg = true ∧ w = false := by cases bg <;> cases w <;> simp at h <;> exact ⟨rfl, rfl⟩
theorem y_moveCount (hf : fOk F) (hm : mF σ F) (hD : rD σ bg w k man ps) (hk : k ≤ 20) : mNR g l (d + 3) 176 [.ref 48] lk ex σ (.int (if (bg && !w) = true then nI (mvs F (ps k).1 (ps k).2).length else -7)) (frL σ) := by
  have ok : mOkP md_X9_moveCount := ok_at 176 (by decide) rfl
  refine mC_of (md := md_X9_moveCount) rfl (lt_at (by decide)) rfl ?_
  refine mGo_run (n := 400) ok rfl ?_
  refine mGo_callP ok rfl (by omega) (m_isPlaying (d := d) hD) ?_
  refine mGo_ifI ok rfl (bI_0) (fun h => ?_) (fun h => ?_)
  · refine mGo_run (n := 400) ok rfl ?_
    exact mGo_ret ok rfl trivial (⟨by rw [h]; rfl, rfl, frL.refl⟩)
  · have e : (bg && !w) = true := by simpa using h
    obtain ⟨rfl, rfl⟩ := on_bg e
    refine mGo_run (n := 400) ok rfl ?_
    refine mGo_callV ok rfl (by omega) (m_now (d := d) hD hk) (fun σ1 hσ1 => ?_)
    subst hσ1
    refine mGo_run (n := 400) ok rfl ?_
    refine mGo_callP ok rfl (by omega) (m_countMoves (d := d) hf ((frL_now _ _).mF hm) (c := (ps k).1) (o := (ps k).2) ⟨by simp [WL_at], by simp [WL_at]⟩) ?_
    refine mGo_run (n := 400) ok rfl ?_
    exact mGo_ret ok rfl trivial (⟨by rw [if_pos e], rfl, frL_now _ _⟩)
theorem y_move (hf : fOk F) (hm : mF σ F) (hD : rD σ bg w k man ps) (hk : k ≤ 20) (m x : Int32) : mNR g l (d + 4) 177 [.ref 48, .int m, .int x] lk ex σ (.int (if (bg && !w) = true then qMove F (ps k) m x else -7)) (frL σ) := by
  have hml := mvs_len hf (ps k).1 (ps k).2
  have ok : mOkP md_X9_move := ok_at 177 (by decide) rfl
  refine mC_of (md := md_X9_move) rfl (lt_at (by decide)) rfl ?_
  refine mGo_run (n := 400) ok rfl ?_
  refine mGo_callP ok rfl (by omega) (m_isPlaying (d := d) hD) ?_
  refine mGo_ifI ok rfl (bI_0) (fun h => ?_) (fun h => ?_)
  · refine mGo_run (n := 400) ok rfl ?_
    exact mGo_ret ok rfl trivial (⟨by rw [h]; rfl, rfl, frL.refl⟩)
  · have e : (bg && !w) = true := by simpa using h
    obtain ⟨rfl, rfl⟩ := on_bg e
    rw [if_pos e]
    refine mGo_run (n := 400) ok rfl ?_
    refine mGo_callP ok rfl (by omega) (m_isIn (d := d) x 0 2) ?_
    by_cases hg : 0 ≤ x ∧ x ≤ 2
    · rw [if_pos hg]
      refine mGo_if ok rfl (fun h1 => ?_) (fun h1 => ?_)
      · exact absurd h1 (by decide)
      · refine mGo_run (n := 400) ok rfl ?_
        refine mGo_callV ok rfl (by omega) (m_now (d := d) hD hk) (fun σ1 hσ1 => ?_)
        have hl1 : frL σ σ1 := by rw [hσ1]; exact frL_now _ _
        have hq1 : mQ σ1 (ps k).1 (ps k).2 := by rw [hσ1]; exact ⟨by simp [WL_at], by simp [WL_at]⟩
        have hm1 := hl1.mF hm
        refine mGo_run (n := 400) ok rfl ?_
        rcases mvA_cases (mvs F (ps k).1 (ps k).2) hml m with ⟨e1, e2⟩ | ⟨i, q, rfl, hi, e1⟩
        · refine mGo_callP ok rfl (by omega) (m_isMove0 (d := d) hf hm1 hq1 e2) ?_
          refine mGo_if ok rfl (fun h3 => ?_) (fun h3 => ?_)
          · refine mGo_run (n := 400) ok rfl ?_
            exact mGo_ret ok rfl trivial (⟨by unfold qMove; rw [if_neg (fun z => z hg), e1], rfl, hl1⟩)
          · exact absurd rfl h3
        · have hil := (List.getElem?_eq_some_iff.mp hi).1
          have ho := mvs_at hf hi
          have ev : qMove F (ps k) (nI i) x = if x = 0 then nI q.1 else if x = 1 then nI q.2 else nI (rpN F q) := by unfold qMove; rw [if_neg (fun z => z hg), e1]
          rw [ev]
          refine mGo_callR ok rfl (by omega) (m_isMove1 (d := d) hf hm1 hq1 hi) (fun σ2 hσ2 => ?_)
          have hl2 : frL σ σ2 := hl1.trans (by rw [hσ2]; exact frL_mv _ _)
          have hv2 : mV σ2 q := by rw [hσ2]; exact mV_mk q
          refine mGo_if ok rfl (fun h3 => ?_) (fun h3 => ?_)
          · exact absurd h3 (by decide)
          · refine mGo_run (n := 400) ok rfl ?_
            refine mGo_if ok rfl (fun h4 => ?_) (fun h4 => ?_)
            · refine mGo_run (n := 400) ok rfl ?_
              rw [hv2.1]
              exact mGo_ret ok rfl trivial (⟨by rw [if_pos h4], rfl, hl2⟩)
            · refine mGo_run (n := 400) ok rfl ?_
              refine mGo_if ok rfl (fun h5 => ?_) (fun h5 => ?_)
              · refine mGo_run (n := 400) ok rfl ?_
                rw [hv2.2]
                exact mGo_ret ok rfl trivial (⟨by rw [if_neg h4, if_pos h5], rfl, hl2⟩)
              · refine mGo_run (n := 400) ok rfl ?_
                refine mGo_callP ok rfl (by omega) (m_countReplies (d := d) hf (hl2.mF hm) hv2 ho) ?_
                refine mGo_run (n := 400) ok rfl ?_
                exact mGo_ret ok rfl trivial (⟨by rw [if_neg h4, if_neg h5], rfl, hl2⟩)
    · rw [if_neg hg]
      refine mGo_if ok rfl (fun h1 => ?_) (fun h1 => ?_)
      · refine mGo_run (n := 400) ok rfl ?_
        exact mGo_ret ok rfl trivial (⟨by unfold qMove; rw [if_pos hg], rfl, frL.refl⟩)
      · exact absurd rfl h1
/-- what the reference changes while it plays -/
def frP (σ σ1 : mHp) : Prop := fr 48 62 σ σ1 ∧ fm [15, 16, 18, 19, 25, 26] σ σ1
theorem frP_L {σ σ1 : mHp} (h : frL σ σ1) : frP σ σ1 ∧ fr 48 49 σ σ1 := ⟨⟨h.1.wide (by decide) (by decide), h.2.wide (by decide)⟩, h.1⟩
set_option maxHeartbeats 1000000 in
theorem m_playOne (hf : fOk F) (hm : mF σ F) (hD : rD σ true false k man ps) (hk : k ≤ 20) (hm1 : man ≤ 1) (m r : Int32) : mNR g l (d + 4) 178 [.ref 48, .int m, .int r] lk ex σ (.int (aPl F k man ps m r).1) (fun σ1 => frP σ σ1 ∧ mF σ1 F ∧ rD σ1 true (aPl F k man ps m r).2.1 (aPl F k man ps m r).2.2.1 man (aPl F k man ps m r).2.2.2) := by
  have hml := mvs_len hf (ps k).1 (ps k).2
  have ok : mOkP md_X9_playOne := ok_at 178 (by decide) rfl
  refine mC_of (md := md_X9_playOne) rfl (lt_at (by decide)) rfl ?_
  refine mGo_run (n := 400) ok rfl ?_
  refine mGo_callV ok rfl (by omega) (m_now (d := d) hD hk) (fun σ1 hσ1 => ?_)
  have hl1 : frL σ σ1 := by rw [hσ1]; exact frL_now _ _
  have hq1 : mQ σ1 (ps k).1 (ps k).2 := by rw [hσ1]; exact ⟨by simp [WL_at], by simp [WL_at]⟩
  have hF1 := hl1.mF hm
  clear hσ1
  refine mGo_run (n := 400) ok rfl ?_
  rcases mvA_cases (mvs F (ps k).1 (ps k).2) hml m with ⟨e1, e2⟩ | ⟨i, q, rfl, hi, e1⟩
  · have ea : aPl F k man ps m r = (-5, false, k, ps) := by unfold aPl; rw [e1]
    rw [ea]
    refine mGo_callP ok rfl (by omega) (m_isMove0 (d := d) hf hF1 hq1 e2) ?_
    refine mGo_if ok rfl (fun h1 => ?_) (fun h1 => ?_)
    · refine mGo_run (n := 400) ok rfl ?_
      exact mGo_ret ok rfl trivial (⟨rfl, rfl, (frP_L hl1).1, hF1, hl1.rD hD⟩)
    · exact absurd rfl h1
  · have hil := (List.getElem?_eq_some_iff.mp hi).1
    have ho := mvs_at hf hi
    have hr3 := rpN_le F q
    refine mGo_callR ok rfl (by omega) (m_isMove1 (d := d) hf hF1 hq1 hi) (fun σ2 hσ2 => ?_)
    have hl2 : frL σ σ2 := hl1.trans (by rw [hσ2]; exact frL_mv _ _)
    have hv2 : mV σ2 q := by rw [hσ2]; exact mV_mk q
    have hq2 : mQ σ2 (ps k).1 (ps k).2 := by rw [hσ2]; exact hq1
    have hF2 := hl2.mF hm
    have hD2 := hl2.rD hD
    clear hσ2
    obtain ⟨d1, d2⟩ := hD2
    obtain ⟨g1, g2, g3, g4⟩ := d2 rfl
    refine mGo_if ok rfl (fun h1 => ?_) (fun h1 => ?_)
    · exact absurd h1 (by decide)
    refine mGo_run (n := 400) ok rfl ?_
    refine mGo_callP ok rfl (by omega) (m_countReplies (d := d) hf hF2 hv2 ho) ?_
    refine mGo_run (n := 400) ok rfl ?_
    have fin : ∀ (τ : mHp) (w1 : Bool) (p : Int64 × Int64) (v : Int32), frL σ τ → mQ τ p.1 p.2 → (rpN F q = 0 ↔ w1 = true) → k < 20 → (w1 = true → v = 1000) → (w1 = false → v = nI (mvs F p.1 p.2).length) → mGo g l (d + 4) md_X9_playOne (SH lk ex).length (mTot (SH lk ex)) (58, [some (.ref 48), some (.int (nI i)), some (.int r), some (.int (nI (rpN F q)))], [], SH lk ex, τ) (fun r1 sp σ1 => r1 = some (.int v) ∧ sp = SH lk ex ∧ (frP σ σ1 ∧ mF σ1 F ∧ rD σ1 true w1 (k + 1) man (upP ps (k + 1) p))) := by
      intro τ w1 p v hl hq hw hk20 hv1 hv2
      have hDt := hl.rD hD
      obtain ⟨t1, t2⟩ := hDt
      obtain ⟨t3, t4, t5, t6⟩ := t2 rfl
      have cont : ∀ b : Int32, b = bI w1 → mGo g l (d + 4) md_X9_playOne (SH lk ex).length (mTot (SH lk ex)) (68, [some (.ref 48), some (.int (nI i)), some (.int r), some (.int (nI (rpN F q)))], [.int b, .ref 48], SH lk ex, τ) (fun r1 sp σ1 => r1 = some (.int v) ∧ sp = SH lk ex ∧ (frP σ σ1 ∧ mF σ1 F ∧ rD σ1 true w1 (k + 1) man (upP ps (k + 1) p))) := by
        intro b hb
        subst hb
        refine mGo_side ok rfl (by cases w1; exact Or.inl rfl; exact Or.inr rfl) ?_
        refine mGo_run (n := 400) ok rfl ?_
        rw [show (mWI τ 48 25 (bI w1)).1 48 26 = nI k by rw [WI_at, if_neg (by omega)]; exact t4, nI_1]
        rw [show (mWI (mWI τ 48 25 (bI w1)) 48 26 (nI (k + 1))).1 48 26 = nI (k + 1) by rw [WI_at, if_pos ⟨rfl, rfl⟩], show (mWI (mWI τ 48 25 (bI w1)) 48 26 (nI (k + 1))).2.1 48 15 = p.1 from hq.1]
        refine mGo_side ok rfl (nI_in (by omega) (by omega)) ?_
        rw [nI_clamp (by omega)]
        refine mGo_run (n := 400) ok rfl ?_
        rw [show (mWL (mWI (mWI τ 48 25 (bI w1)) 48 26 (nI (k + 1))) 60 (k + 1) p.1).1 48 26 = nI (k + 1) from (show (mWI (mWI τ 48 25 (bI w1)) 48 26 (nI (k + 1))).1 48 26 = nI (k + 1) by rw [WI_at, if_pos ⟨rfl, rfl⟩]), show (mWL (mWI (mWI τ 48 25 (bI w1)) 48 26 (nI (k + 1))) 60 (k + 1) p.1).2.1 48 16 = p.2 by rw [WL_at, if_neg (by omega)]; exact hq.2]
        refine mGo_side ok rfl (nI_in (by omega) (by omega)) ?_
        rw [nI_clamp (by omega)]
        refine mGo_run (n := 400) ok rfl ?_
        rw [show (mWL (mWL (mWI (mWI τ 48 25 (bI w1)) 48 26 (nI (k + 1))) 60 (k + 1) p.1) 61 (k + 1) p.2).1 48 25 = bI w1 from (show (mWI (mWI τ 48 25 (bI w1)) 48 26 (nI (k + 1))).1 48 25 = bI w1 by rw [WI_at, if_neg (by omega), WI_at, if_pos ⟨rfl, rfl⟩])]
        have fP : frP σ (mWL (mWL (mWI (mWI τ 48 25 (bI w1)) 48 26 (nI (k + 1))) 60 (k + 1) p.1) 61 (k + 1) p.2) := ⟨((((hl.1.wide (by decide) (by decide)).WI (by decide) (by decide)).WI (by decide) (by decide)).WL (by decide) (by decide)).WL (by decide) (by decide), ((((hl.2.wide (by decide)).WI (fun _ => by decide)).WI (fun _ => by decide)).WL (fun z => absurd z (by decide))).WL (fun z => absurd z (by decide))⟩
        have hFt := hl.mF hm
        have hFf : mF (mWL (mWL (mWI (mWI τ 48 25 (bI w1)) 48 26 (nI (k + 1))) 60 (k + 1) p.1) 61 (k + 1) p.2) F := by
          refine ⟨?_, fun j hj => hFt.2 j hj⟩
          show (mWI (mWI τ 48 25 (bI w1)) 48 26 (nI (k + 1))).1 48 0 = _
          simp only [WI_at]
          exact hFt.1
        have hDf : rD (mWL (mWL (mWI (mWI τ 48 25 (bI w1)) 48 26 (nI (k + 1))) 60 (k + 1) p.1) 61 (k + 1) p.2) true w1 (k + 1) man (upP ps (k + 1) p) := by
          refine ⟨?_, fun _ => ⟨?_, ?_, ?_, fun j hj => ?_⟩⟩
          · show (mWI (mWI τ 48 25 (bI w1)) 48 26 (nI (k + 1))).1 48 24 = _
            rw [WI_at, if_neg (by omega), WI_at, if_neg (by omega)]; exact t1
          · show (mWI (mWI τ 48 25 (bI w1)) 48 26 (nI (k + 1))).1 48 25 = _
            rw [WI_at, if_neg (by omega), WI_at, if_pos ⟨rfl, rfl⟩]
          · show (mWI (mWI τ 48 25 (bI w1)) 48 26 (nI (k + 1))).1 48 26 = _
            rw [WI_at, if_pos ⟨rfl, rfl⟩]
          · show (mWI (mWI τ 48 25 (bI w1)) 48 26 (nI (k + 1))).1 48 17 = _
            rw [WI_at, if_neg (by omega), WI_at, if_neg (by omega)]; exact t5
          · by_cases z : j = k + 1
            · subst z
              simp only [upP, if_pos]
              constructor <;> simp [WL_at]
            · simp only [upP, if_neg z]
              obtain ⟨u1, u2⟩ := t6 j (by omega)
              constructor
              · rw [WL_at, if_neg (by omega), WL_at, if_neg (by omega)]; exact u1
              · rw [WL_at, if_neg (by omega), WL_at, if_neg (by omega)]; exact u2
        refine mGo_ifI ok rfl (bI_0) (fun h5 => ?_) (fun h5 => ?_)
        · refine mGo_run (n := 400) ok rfl ?_
          refine mGo_callP ok rfl (by omega) (m_countMoves (d := d) hf hFf (c := p.1) (o := p.2) ⟨by rw [WL_at, if_neg (by omega), WL_at, if_neg (by omega)]; exact hq.1, by rw [WL_at, if_neg (by omega), WL_at, if_neg (by omega)]; exact hq.2⟩) ?_
          refine mGo_run (n := 400) ok rfl ?_
          exact mGo_ret ok rfl trivial (⟨by rw [hv2 h5], rfl, fP, hFf, hDf⟩)
        · have e5 : w1 = true := by simpa using h5
          refine mGo_run (n := 400) ok rfl ?_
          exact mGo_ret ok rfl trivial (⟨by rw [hv1 e5], rfl, fP, hFf, hDf⟩)
      refine mGo_run (n := 400) ok rfl ?_
      refine mGo_ifI ok rfl (nI_eq (a := rpN F q) (b := 0) (by omega) (by omega)) (fun h6 => ?_) (fun h6 => ?_)
      · refine mGo_runS 68 (n := 400) ok rfl ?_
        exact cont 1 (by rw [hw.mp h6]; rfl)
      · refine mGo_runS 68 (n := 400) ok rfl ?_
        exact cont 0 (by
          cases w1 with
          | false => rfl
          | true => exact absurd (hw.mpr rfl) h6)
    have go : (rpN F q ≠ 0 → 0 ≤ r ∧ r < nI (rpN F q)) → mGo g l (d + 4) md_X9_playOne (SH lk ex).length (mTot (SH lk ex)) (37, [some (.ref 48), some (.int (nI i)), some (.int r), some (.int (nI (rpN F q)))], [], SH lk ex, σ2) (fun r1 sp σ1 => r1 = some (.int (aPl F k man ps (nI i) r).1) ∧ sp = SH lk ex ∧ (frP σ σ1 ∧ mF σ1 F ∧ rD σ1 true (aPl F k man ps (nI i) r).2.1 (aPl F k man ps (nI i) r).2.2.1 man (aPl F k man ps (nI i) r).2.2.2)) := by
      intro hr
      refine mGo_run (n := 400) ok rfl ?_
      rw [g2]
      refine mGo_ifI ok rfl (nI_eq (a := k) (b := 20) (by omega) (by omega)) (fun h2 => ?_) (fun h2 => ?_)
      · have ef : aPl F k man ps (nI i) r = (-3, false, k, ps) := by
          unfold aPl
          rw [e1]
          by_cases y : rpN F q = 0
          · simp only [if_pos y, if_pos h2]
          · simp only [if_neg y, if_pos h2]
            rw [if_neg (fun t => t (hr y))]
        rw [ef]
        refine mGo_run (n := 400) ok rfl ?_
        exact mGo_ret ok rfl trivial (⟨rfl, rfl, (frP_L hl2).1, hF2, hl2.rD hD⟩)
      · refine mGo_run (n := 400) ok rfl ?_
        refine mGo_ifI ok rfl (nI_leI (a := rpN F q) (b := 0) (by omega) (by omega)) (fun h3 => ?_) (fun h3 => ?_)
        · have h3 : rpN F q = 0 := by omega
          have ea : aPl F k man ps (nI i) r = (1000, true, k + 1, upP ps (k + 1) (ps k)) := by
            unfold aPl; rw [e1]; simp only [if_pos h3]; rw [if_neg (by omega)]
          rw [ea]
          exact fin σ2 true (ps k) 1000 hl2 hq2 ⟨fun _ => rfl, fun _ => h3⟩ (by omega) (fun _ => rfl) (fun z => Bool.noConfusion z)
        · have h3 : rpN F q ≠ 0 := by omega
          obtain ⟨ra, rb⟩ := hr h3
          obtain ⟨rn, hrn, rfl⟩ := (i_in (n := rpN F q) (by omega)).mp ⟨ra, rb⟩
          have ea : aPl F k man ps (nI i) (nI rn) = (nI (mvs F (rpP F man (ps k).1 (ps k).2 q rn).1 (rpP F man (ps k).1 (ps k).2 q rn).2).length, false, k + 1, upP ps (k + 1) (rpP F man (ps k).1 (ps k).2 q rn)) := by
            unfold aPl; rw [e1]; simp only [if_neg h3]; rw [if_neg (fun t => t (hr h3)), if_neg (by omega), nI_clamp (by omega)]
          rw [ea]
          refine mGo_run (n := 400) ok rfl ?_
          refine mGo_callV ok rfl (by omega) (m_reply (d := d) hf hF2 hq2 g3 hm1 hv2 ho hrn) (fun σ3 hσ3 => ?_)
          exact fin σ3 false _ _ (hl2.trans ⟨hσ3.1, hσ3.2.1.wide (by decide)⟩) hσ3.2.2 ⟨fun z => absurd z h3, fun z => Bool.noConfusion z⟩ (by omega) (fun z => Bool.noConfusion z) (fun _ => rfl)
    refine mGo_ifI ok rfl (nI_leI (a := rpN F q) (b := 0) (by omega) (by omega)) (fun h2 => ?_) (fun h2 => ?_)
    · exact go (fun z => by omega)
    · refine mGo_run (n := 400) ok rfl ?_
      refine mGo_callP ok rfl (by omega) (m_isIn (d := d) r 0 (nI (rpN F q) - 1)) ?_
      have el := i_le1 (f := r) (n := rpN F q) (by omega) (by omega)
      by_cases hg : 0 ≤ r ∧ r < nI (rpN F q)
      · rw [if_pos ⟨hg.1, el.mpr hg.2⟩]
        refine mGo_if ok rfl (fun h3 => ?_) (fun h3 => ?_)
        · exact absurd h3 (by decide)
        · exact go (fun _ => hg)
      · rw [if_neg (fun z => hg ⟨z.1, el.mp z.2⟩)]
        have ea : aPl F k man ps (nI i) r = (-1, false, k, ps) := by
          unfold aPl; rw [e1]; simp only [if_neg (show ¬ rpN F q = 0 by omega)]; rw [if_pos hg]
        rw [ea]
        refine mGo_if ok rfl (fun h3 => ?_) (fun h3 => ?_)
        · refine mGo_run (n := 400) ok rfl ?_
          exact mGo_ret ok rfl trivial (⟨rfl, rfl, (frP_L hl2).1, hF2, hl2.rD hD⟩)
        · exact absurd rfl h3
theorem y_play (hf : fOk F) (hm : mF σ F) (hD : rD σ bg w k man ps) (hk : k ≤ 20) (hm1 : man ≤ 1) (m r : Int32) : mNR g l (d + 5) 179 [.ref 48, .int m, .int r] lk ex σ (.int (qPlay F bg w k man ps m r).1) (fun σ1 => frP σ σ1 ∧ mF σ1 F ∧ rD σ1 bg (qPlay F bg w k man ps m r).2.1 (qPlay F bg w k man ps m r).2.2.1 man (qPlay F bg w k man ps m r).2.2.2) := by
  have ok : mOkP md_X9_play := ok_at 179 (by decide) rfl
  refine mC_of (md := md_X9_play) rfl (lt_at (by decide)) rfl ?_
  unfold qPlay
  refine mGo_run (n := 400) ok rfl ?_
  refine mGo_callP ok rfl (by omega) (m_isPlaying (d := d) hD) ?_
  refine mGo_ifI ok rfl (bI_0) (fun h => ?_) (fun h => ?_)
  · rw [if_neg (by rw [h]; simp)]
    refine mGo_run (n := 400) ok rfl ?_
    exact mGo_ret ok rfl trivial (⟨rfl, rfl, ⟨fr.refl, fm.refl⟩, hm, hD⟩)
  · have e : (bg && !w) = true := by simpa using h
    rw [if_pos e]
    obtain ⟨rfl, rfl⟩ := on_bg e
    refine mGo_run (n := 400) ok rfl ?_
    refine mGo_callR ok rfl (by omega) (m_playOne (d := d) hf hm hD hk hm1 m r) (fun σ1 hσ1 => ?_)
    refine mGo_run (n := 400) ok rfl ?_
    exact mGo_ret ok rfl trivial (⟨rfl, rfl, hσ1⟩)
theorem y_takeBack (hf : fOk F) (hm : mF σ F) (hD : rD σ bg w k man ps) (hk : k ≤ 20) : mNR g l d 180 [.ref 48] lk ex σ (.int (if bg = true ∧ 0 < k then nI (k - 1) else -5)) (fun σ1 => frP σ σ1 ∧ mF σ1 F ∧ if bg = true ∧ 0 < k then rD σ1 true false (k - 1) man ps else rD σ1 bg w k man ps) := by
  have hD0 := hD
  obtain ⟨d1, d2⟩ := hD0
  have ok : mOkP md_X9_takeBack := ok_at 180 (by decide) rfl
  refine mC_of (md := md_X9_takeBack) rfl (lt_at (by decide)) rfl ?_
  have no : ¬ (bg = true ∧ 0 < k) → mGo g l d md_X9_takeBack (SH lk ex).length (mTot (SH lk ex)) (14, [some (.ref 48)], [], SH lk ex, σ) (fun r1 sp σ1 => r1 = some (.int (if bg = true ∧ 0 < k then nI (k - 1) else -5)) ∧ sp = SH lk ex ∧ (frP σ σ1 ∧ mF σ1 F ∧ if bg = true ∧ 0 < k then rD σ1 true false (k - 1) man ps else rD σ1 bg w k man ps)) := by
    intro z
    refine mGo_run (n := 400) ok rfl ?_
    exact mGo_ret ok rfl trivial (⟨by rw [if_neg z], rfl, ⟨fr.refl, fm.refl⟩, hm, by rw [if_neg z]; exact hD⟩)
  refine mGo_run (n := 400) ok rfl ?_
  rw [d1]
  refine mGo_ifI ok rfl (bI_0) (fun h => ?_) (fun h => ?_)
  · exact no (fun z => by rw [z.1] at h; exact Bool.noConfusion h)
  · have eb : bg = true := by simpa using h
    obtain ⟨g1, g2, g3, g4⟩ := d2 eb
    refine mGo_run (n := 400) ok rfl ?_
    rw [g2]
    refine mGo_ifI ok rfl (nI_eq (a := k) (b := 0) (by omega) (by omega)) (fun h1 => ?_) (fun h1 => ?_)
    · exact no (fun z => by omega)
    · have hc : bg = true ∧ 0 < k := ⟨eb, by omega⟩
      refine mGo_run (n := 400) ok rfl ?_
      rw [g2, show nI k - 1 = nI (k - 1) by have := nI_pred (k - 1); rw [show k - 1 + 1 = k by omega] at this; exact this]
      refine mGo_side ok rfl (Or.inl rfl) ?_
      refine mGo_run (n := 400) ok rfl ?_
      rw [show (mWI (mWI σ 48 26 (nI (k - 1))) 48 25 0).1 48 26 = nI (k - 1) by simp [WI_at]]
      refine mGo_ret ok rfl trivial ⟨by rw [if_pos hc], rfl, ⟨(fr.refl.WI (by decide) (by decide)).WI (by decide) (by decide), (fm.refl.WI (fun _ => by decide)).WI (fun _ => by decide)⟩, ⟨?_, fun j hj => hm.2 j hj⟩, ?_⟩
      · simp only [WI_at]; exact hm.1
      · rw [if_pos hc]
        refine ⟨?_, fun _ => ⟨?_, ?_, ?_, fun i hi => g4 i (by omega)⟩⟩
        · rw [WI_at, if_neg (by omega), WI_at, if_neg (by omega), d1, eb]
        · rw [WI_at, if_pos ⟨rfl, rfl⟩]; rfl
        · rw [WI_at, if_neg (by omega), WI_at, if_pos ⟨rfl, rfl⟩]
        · rw [WI_at, if_neg (by omega), WI_at, if_neg (by omega)]; exact g3
end T
end
section
/-! moves stay when formulas are added -/
def und (c : Int64) (n : Nat) : Prop := ∀ j, n ≤ j → tb c j = false
theorem und_or {a b : Int64} {n : Nat} (ha : und a n) (hb : und b n) : und (a ||| b) n := fun j hj => by rw [tb_or, ha j hj, hb j hj]; rfl
theorem und_bit {i n : Nat} (h : i < n) (hi : i < 64) : und (bit i) n := fun j hj => by rw [tb_bit hi]; exact decide_eq_false (by omega)
theorem und_0 {n : Nat} : und 0 n := fun j _ => tb_zero j
theorem und_le {c : Int64} {n m : Nat} (h : und c n) (hm : n ≤ m) : und c m := fun j hj => h j (by omega)
def fle (F F1 : aF) : Prop := aN F ≤ aN F1 ∧ ∀ j, j < aN F → aK F1 j = aK F j ∧ aA F1 j = aA F j ∧ aB F1 j = aB F j
theorem fle.refl {F : aF} : fle F F := ⟨Nat.le_refl _, fun _ _ => ⟨rfl, rfl, rfl⟩⟩
theorem fle.trans {F F1 F2 : aF} (h1 : fle F F1) (h2 : fle F1 F2) : fle F F2 := ⟨Nat.le_trans h1.1 h2.1, fun j hj => by
  obtain ⟨a, b, c⟩ := h1.2 j hj
  obtain ⟨x, y, z⟩ := h2.2 j (by have := h1.1; omega)
  exact ⟨x.trans a, y.trans b, z.trans c⟩⟩
theorem aMk_fle (F : aF) (k a b : Nat) : fle F (aMk F k a b).2 := by
  unfold aMk
  cases fF F k a b with
  | some j => exact fle.refl
  | none =>
    by_cases h : aN F < 40
    · simp only [if_pos h]
      refine ⟨by simp only [aN_mk]; omega, fun j hj => ?_⟩
      simp only [aK_mk, aA_mk, aB_mk, up, if_neg (show ¬ j = aN F by omega), and_self]
    · simp only [if_neg h]
      exact fle.refl
theorem clM_split (c o : Int64) (b : Nat) : ∀ a k, clM c o k (a + b) = clM c o k a ++ clM c o (k + a) b := by
  intro a
  induction a with
  | zero => intro k; simp [clM]
  | succ a ih =>
    intro k
    rw [show a + 1 + b = (a + b) + 1 by omega]
    simp only [clM]
    rw [ih (k + 1), List.append_assoc, show k + 1 + a = k + (a + 1) by omega]
theorem atM_split (F : aF) (c : Int64) (b : Nat) : ∀ a k, atM F c k (a + b) = atM F c k a ++ atM F c (k + a) b := by
  intro a
  induction a with
  | zero => intro k; simp [atM]
  | succ a ih =>
    intro k
    rw [show a + 1 + b = (a + b) + 1 by omega]
    simp only [atM]
    rw [ih (k + 1), List.append_assoc, show k + 1 + a = k + (a + 1) by omega]
theorem atM_congr {F F1 : aF} {c : Int64} (h : fle F F1) : ∀ m k, k + m ≤ aN F → atM F1 c k m = atM F c k m := by
  intro m
  induction m with
  | zero => intro k _; rfl
  | succ m ih =>
    intro k hk
    obtain ⟨a, b, e⟩ := h.2 k (by omega)
    simp only [atM, atK]
    rw [ih (k + 1) (by omega), a, b]
theorem mvs_fle {F F1 : aF} (hf : fOk F) (h : fle F F1) {c o : Int64} (hc : und c (aN F)) (ho : und o (aN F)) : mvs F1 c o = mvs F c o := by
  have h4 := hf.1
  have hl := h.1
  unfold mvs
  rw [show aN F1 = aN F + (aN F1 - aN F) by omega, clM_split, clM_nil (aN F1 - aN F) (0 + aN F) (fun j hj => ho j (by omega)), List.append_nil]
  rw [show aN F + (aN F1 - aN F) - 4 = (aN F - 4) + (aN F1 - aN F) by omega, atM_split, atM_nil (aN F1 - aN F) (4 + (aN F - 4)) (fun j hj => hc j (by omega)), List.append_nil, atM_congr h _ _ (by omega)]
theorem atP2_und {F : aF} (hf : fOk F) {man f r : Nat} {c o : Int64} (hfn : f < aN F) (k0 : aK F f ≠ 0) (hc : und c (aN F)) (ho : und o (aN F)) : und (atP2 F man c o f r).1 (aN F) ∧ und (atP2 F man c o f r).2 (aN F) := by
  obtain ⟨w1, w2, w3, w4, w5, w6⟩ := hf.2.2 f hfn
  have hn := hf.2.1
  have hA := w3 k0
  have bA : und (bit (aA F f)) (aN F) := und_bit (by omega) (by omega)
  have bB : 2 ≤ aK F f → und (bit (aB F f)) (aN F) := fun z => by have := w4 z; exact und_bit (by omega) (by omega)
  have hd : und (if aK F f = 2 then (if r = 0 then bit (aA F f) else bit (aB F f)) else if aK F f = 3 then bit (aA F f) ||| bit (aB F f) else if aK F f = 4 then bit (aB F f) else 0) (aN F) := by
    by_cases e2 : aK F f = 2
    · rw [if_pos e2]
      by_cases er : r = 0
      · rw [if_pos er]; exact bA
      · rw [if_neg er]; exact bB (by omega)
    · rw [if_neg e2]
      by_cases e3 : aK F f = 3
      · rw [if_pos e3]; exact und_or bA (bB (by omega))
      · rw [if_neg e3]
        by_cases e4 : aK F f = 4
        · rw [if_pos e4]; exact bB (by omega)
        · rw [if_neg e4]; exact und_0
  refine ⟨?_, ?_⟩
  · simp only [atP2]
    refine und_or hc ?_
    by_cases e : aK F f = 1 ∨ aK F f = 4
    · rw [if_pos e]; exact bA
    · rw [if_neg e]; exact und_0
  · simp only [atP2]
    by_cases e : man = 1
    · rw [if_pos e]; exact und_or ho hd
    · rw [if_neg e]; exact hd
theorem rpP_und {F : aF} (hf : fOk F) {man r : Nat} {q : Nat × Nat} {c o : Int64} (hq : mvOk F q) (hr : r < rpN F q) (hc : und c (aN F)) (ho : und o (aN F)) : und (rpP F man c o q r).1 (aN F) ∧ und (rpP F man c o q r).2 (aN F) := by
  obtain ⟨o1, o2, o3⟩ := hq
  obtain ⟨w1, w2, w3, w4, w5, w6⟩ := hf.2.2 q.2 o1
  have hn := hf.2.1
  unfold rpP
  by_cases e : q.1 = 0
  · rw [if_pos e]
    exact atP2_und hf o1 (fun z => by rw [rpN, if_pos e, z] at hr; exact absurd hr (by simp [atk])) hc ho
  · rw [if_neg e]
    obtain ⟨k0, k2⟩ := o3 e
    have hA := w3 k0
    have bA : und (bit (aA F q.2)) (aN F) := und_bit (by omega) (by omega)
    have bB : 2 ≤ aK F q.2 → und (bit (aB F q.2)) (aN F) := fun z => by have := w4 z; exact und_bit (by omega) (by omega)
    by_cases e2 : q.1 = 2
    · rw [if_pos e2]; exact ⟨und_or hc bA, ho⟩
    · rw [if_neg e2]
      by_cases e3 : q.1 = 3
      · rw [if_pos e3]; exact ⟨und_or hc (bB (by have := k2.mp (Or.inr e3); omega)), ho⟩
      · rw [if_neg e3]
        by_cases k3 : aK F q.2 = 3
        · rw [if_pos k3]
          refine ⟨und_or hc ?_, ho⟩
          by_cases er : r = 0
          · rw [if_pos er]; exact bA
          · rw [if_neg er]; exact bB (by omega)
        · rw [if_neg k3]
          by_cases er : r < atk (aK F (aA F q.2))
          · rw [if_pos er]
            exact atP2_und hf (by omega) (fun z => by rw [z] at er; exact absurd er (by simp [atk])) hc ho
          · rw [if_neg er]
            refine ⟨und_or hc (bB ?_), ho⟩
            rw [rpN, if_neg e] at hr
            by_cases k1 : aK F q.2 = 1
            · rw [if_pos k1] at hr; exact absurd hr er
            · omega
/-- a dialogue over formulas -/
def dOk (F : aF) (k man : Nat) (ps : Nat → Int64 × Int64) : Prop := k ≤ 20 ∧ man ≤ 1 ∧ ∀ i, i ≤ k → und (ps i).1 (aN F) ∧ und (ps i).2 (aN F)
theorem dOk_fle {F F1 : aF} {k man : Nat} {ps : Nat → Int64 × Int64} (h : fle F F1) (hd : dOk F k man ps) : dOk F1 k man ps := ⟨hd.1, hd.2.1, fun i hi => ⟨und_le (hd.2.2 i hi).1 h.1, und_le (hd.2.2 i hi).2 h.1⟩⟩
theorem dOk_0 (F : aF) : dOk F 0 0 (fun _ => (0, 0)) := ⟨by omega, by omega, fun _ _ => ⟨und_0, und_0⟩⟩
theorem cD_fle {σ : mHp} {F F1 : aF} {bg w : Bool} {k man : Nat} {ps : Nat → Int64 × Int64} (hf : fOk F) (h : fle F F1) (hd : dOk F k man ps) (hD : cD σ F bg w k man ps) : cD σ F1 bg w k man ps := by
  obtain ⟨d1, d2, d3, d4⟩ := hD
  refine ⟨d1, d2, d3, fun z => ?_⟩
  obtain ⟨f1, f2, f3, f4, f5⟩ := d4 z
  obtain ⟨u1, u2⟩ := hd.2.2 k (Nat.le_refl _)
  exact ⟨f1, f2, f3, f4, by rw [mvs_fle hf h u1 u2]; exact f5⟩
theorem dOk_beg {F : aF} (hf : fOk F) {f m r : Int32} {p : Nat × Int64 × Int64} (h : (qBeg F f m r).2 = some p) : dOk F 0 p.1 (fun _ => p.2) := by
  have hn := hf.2.1
  unfold qBeg at h
  by_cases h1 : 0 ≤ f ∧ f < nI (aN F)
  · rw [if_neg (fun z => z h1)] at h
    by_cases h2 : qMan m ∧ 0 ≤ r ∧ r < nI (atk (aK F f.toNatClampNeg))
    · rw [if_neg (fun z => z h2)] at h
      obtain ⟨j, hj, rfl⟩ := (i_in (by omega)).mp h1
      obtain ⟨mn, hmn, rfl⟩ := qMan_n h2.1
      rw [nI_clamp (n := j) (by omega), nI_clamp (n := mn) (by omega)] at h
      rw [nI_clamp (n := j) (by omega)] at h2
      have ha := atk_le (aK F j)
      obtain ⟨rn, hrn, rfl⟩ := (i_in (n := atk (aK F j)) (by omega)).mp h2.2
      cases h
      exact ⟨by omega, by simpa using hmn, fun _ _ => atP2_und hf hj (fun z => by rw [z] at hrn; exact absurd hrn (by simp [atk])) und_0 und_0⟩
    · rw [if_pos h2] at h; cases h
  · rw [if_pos h1] at h; cases h
theorem dOk_pl {F : aF} (hf : fOk F) {k man : Nat} {ps : Nat → Int64 × Int64} (hd : dOk F k man ps) (m r : Int32) : dOk F (aPl F k man ps m r).2.2.1 man (aPl F k man ps m r).2.2.2 := by
  obtain ⟨u1, u2⟩ := hd.2.2 k (Nat.le_refl _)
  have hk := hd.1
  have add : ∀ p : Int64 × Int64, und p.1 (aN F) → und p.2 (aN F) → k ≠ 20 → dOk F (k + 1) man (upP ps (k + 1) p) := by
    intro p h1 h2 h3
    refine ⟨by omega, hd.2.1, fun i hi => ?_⟩
    by_cases z : i = k + 1
    · simp only [upP, if_pos z]; exact ⟨h1, h2⟩
    · simp only [upP, if_neg z]; exact hd.2.2 i (by omega)
  have hml := mvs_len hf (ps k).1 (ps k).2
  unfold aPl
  rcases mvA_cases (mvs F (ps k).1 (ps k).2) hml m with ⟨e1, e2⟩ | ⟨i, q, rfl, hi, e1⟩
  · rw [e1]; exact hd
  · rw [e1]
    have ho := mvs_at hf hi
    have hr3 := rpN_le F q
    by_cases z : rpN F q = 0
    · simp only [if_pos z]
      by_cases y : k = 20
      · rw [if_pos y]; exact hd
      · rw [if_neg y]; exact add _ u1 u2 y
    · simp only [if_neg z]
      by_cases x : 0 ≤ r ∧ r < nI (rpN F q)
      · rw [if_neg (fun t => t x)]
        by_cases y : k = 20
        · rw [if_pos y]; exact hd
        · rw [if_neg y]
          obtain ⟨rn, hrn, rfl⟩ := (i_in (n := rpN F q) (by omega)).mp x
          rw [nI_clamp (by omega)]
          obtain ⟨v1, v2⟩ := rpP_und hf (man := man) ho hrn u1 u2
          exact add _ v1 v2 y
      · rw [if_pos x]; exact hd
theorem dOk_play {F : aF} (hf : fOk F) {bg w : Bool} {k man : Nat} {ps : Nat → Int64 × Int64} (hd : dOk F k man ps) (m r : Int32) : dOk F (qPlay F bg w k man ps m r).2.2.1 man (qPlay F bg w k man ps m r).2.2.2 := by
  unfold qPlay
  by_cases h : (bg && !w) = true
  · rw [if_pos h]; exact dOk_pl hf hd m r
  · rw [if_neg h]; exact hd
theorem dOk_back {F : aF} {k man : Nat} {ps : Nat → Int64 × Int64} (hd : dOk F k man ps) : dOk F (k - 1) man ps := ⟨by have := hd.1; omega, hd.2.1, fun i hi => hd.2.2 i (by omega)⟩
section T
variable {g : mG} {l : Launch} {d : Nat} {lk : Nat} {ex : mSh} {σ : mHp} {F : aF}
/-- the four atoms alone -/
def f4 (F : aF) : aF := (4, F.2)
theorem f4_ok (hf : fOk F) : fOk (f4 F) := ⟨Nat.le_refl _, by show 4 ≤ 40; omega, fun j hj => hf.2.2 j (by have := hf.1; have : j < 4 := hj; omega)⟩
theorem x_reset (hf : fOk F) (hc : cF σ F) : mNR g l (d + 1) 76 [.ref 0] lk ex σ (.int (nI (aN F))) (fun σ1 => σ1 = mWI (mWI (mWI (mWI σ 1 6 4) 15 4 0) 15 5 0) 15 3 0) := by
  have ok : mOkP md_X8_reset := ok_at 76 (by decide) rfl
  refine mC_of (md := md_X8_reset) rfl (lt_at (by decide)) rfl ?_
  refine mGo_run (n := 400) ok rfl ?_
  rw [hc.1]
  refine mGo_callV ok rfl (by omega) (c_shrinkTo (d := d) (k := 4) hc.1 hf.2.1 (Nat.le_refl _) hf.1) (fun σ1 hσ1 => ?_)
  refine mGo_run (n := 400) ok rfl ?_
  refine mGo_callV ok rfl (by omega) (c_drop (d := d)) (fun σ2 hσ2 => ?_)
  refine mGo_run (n := 400) ok rfl ?_
  exact mGo_ret ok rfl trivial (⟨rfl, rfl, by rw [hσ2, hσ1]; rfl⟩)
theorem y_reset (hm : mF σ F) : mNR g l d 122 [.ref 48] lk ex σ (.int (nI (aN F))) (fun σ1 => σ1 = mWI (mWI σ 48 0 4) 48 24 0) := by
  have ok : mOkP md_X9_reset := ok_at 122 (by decide) rfl
  refine mC_of (md := md_X9_reset) rfl (lt_at (by decide)) rfl ?_
  refine mGo_run (n := 400) ok rfl ?_
  rw [hm.1]
  refine mGo_side ok rfl (Or.inl rfl) ?_
  refine mGo_run (n := 400) ok rfl ?_
  exact mGo_ret ok rfl trivial (⟨rfl, rfl, rfl⟩)
end T
end
section
/-! parts of arrays are copied by the library -/
def mCpI (σ : mHp) (q0 q1 a b n : Nat) : mHp := (fun x => if x = q1 then va_cpy (σ.1 q0) (σ.1 q1) a b n else σ.1 x, σ.2)
def mCpL (σ : mHp) (q0 q1 a b n : Nat) : mHp := (σ.1, fun x => if x = q1 then va_cpy (σ.2.1 q0) (σ.2.1 q1) a b n else σ.2.1 x, σ.2.2)
def mCpD (σ : mHp) (q0 q1 a b n : Nat) : mHp := (σ.1, σ.2.1, fun x => if x = q1 then va_cpy (σ.2.2 q0) (σ.2.2 q1) a b n else σ.2.2 x)
theorem mCp_in : Cond.native arraycopyName ∈ mTB ∧ Cond.static arraycopyName ∈ mTB ∧ Cond.initialized "java/lang/System" ∈ mTB := ⟨List.mem_filter.mpr (by decide +kernel), List.mem_filter.mpr (by decide +kernel), List.mem_filter.mpr (by decide +kernel)⟩
theorem mCp_w : nativeFrameWords "java/lang/System" "arraycopy" 5 + 11 ≤ 41 := by decide
section MS
variable {g : mG} {l : Launch} {md : mMd} {p : Program} {e : Env} {R : Room} {s : State} {m : MethodId} {args : Array Value} {below : List Frame} {meth : Method} {c : Code} {n0 t0 : Nat} {Q : State → Prop}
theorem mCpI_ok (hX : mX g md p s m args meth c n0) (hok : mOkP md) {pc np bb cc i q0 q1 N0 N1 a b n : Nat} {v : Int32} {w : Int64} {r0 r1 : List (Option Nat)} {L : mLs} {sp : mSh} {σ : mHp} (hr : mIn md.2.2.2.2.2 pc = some (.invokestatic i, np, 1000, bb, cc, v, w)) (hl0 : Cond.methodLink (mCn md.2.1) i arraycopyName ∈ mTB) (h0 : sp[q0]? = some (100, N0, r0)) (h1 : sp[q1]? = some (100, N1, r1)) (l0 : q0 < 1000000) (l1 : q1 < 1000000) (ha : a + n ≤ N0) (hb : b + n ≤ N1) (hN : N0 < 2 ^ 31 ∧ N1 < 2 ^ 31) (hR : 1 ≤ R.frames) (hR2 : 41 ≤ R.locals) (k : mM g l md p e R s m args below meth c n0 t0 Q (np, L, [], sp, mCpI σ q0 q1 a b n)) : mM g l md p e R s m args below meth c n0 t0 Q (pc, L, [.int (nI n), .int (nI b), .ref q1, .int (nI a), .ref q0], sp, σ) := by
  obtain ⟨hd0, -, hx0⟩ := mRow_ok hok.1 hr
  simp only [mRx, Bool.and_eq_true, decide_eq_true_eq] at hx0
  have hd : decode md.2.2.1 pc = .ok (.invokestatic i, 3) := mDec hd0 hx0.1
  have enp := hx0.1
  subst enp
  intro hn ht H locs ls hP hS hl
  show W p l e R s m args below meth c H locs _ _ Q (F0 m pc ls [.int (nI n), .int (nI b), .ref (mAl (mGh g) q1), .int (nI a), .ref (mAl (mGh g) q0)])
  rw [mAl_lt l0, mAl_lt l1]
  refine va_copyi (own := mCn md.2.1) hX.1 hX.2.1 (by rw [hX.2.2.1]; exact hl.2.1.symm) hX.2.2.2.1 (hX.2.2.2.2.1 _ hl0) (hX.2.2.2.2.1 _ mCp_in.1) (hX.2.2.2.2.1 _ mCp_in.2.1) (hX.2.2.2.2.1 _ mCp_in.2.2) hX.2.2.2.2.2.1.1 hP (mWl_D g sp σ) hS q0 q1 0 0 (ty := .int) (mWl_at (g := g) (σ := σ) h0) (mWl_at (g := g) (σ := σ) h1) rfl rfl rfl (nI_pos (by omega)) (nI_pos (by omega)) (nI_pos (by omega)) (by rw [nI_clamp (by omega), nI_clamp (by omega)]; exact ha) (by rw [nI_clamp (by omega), nI_clamp (by omega)]; exact hb) (fun _ _ => rfl) hR (by have := mCp_w; simp only [List.map_nil, List.sum_nil]; omega) hd (fun H1 locs1 h1' _ h3 => ?_)
  rw [nI_clamp (by omega), nI_clamp (by omega), nI_clamp (by omega)] at h1'
  rw [mWl_set (σ' := mCpI σ q0 q1 a b n) rfl h1 (by simp [mCell, mCpI]) (fun _ _ => rfl) (fun j sh hj => by simp [mCell, mFs, mFv, mCpI, hj])] at h1'
  exact k hn ht H1 locs1 ls h1' h3 hl
theorem mCpL_ok (hX : mX g md p s m args meth c n0) (hok : mOkP md) {pc np bb cc i q0 q1 N0 N1 a b n : Nat} {v : Int32} {w : Int64} {r0 r1 : List (Option Nat)} {L : mLs} {sp : mSh} {σ : mHp} (hr : mIn md.2.2.2.2.2 pc = some (.invokestatic i, np, 1000, bb, cc, v, w)) (hl0 : Cond.methodLink (mCn md.2.1) i arraycopyName ∈ mTB) (h0 : sp[q0]? = some (101, N0, r0)) (h1 : sp[q1]? = some (101, N1, r1)) (l0 : q0 < 1000000) (l1 : q1 < 1000000) (ha : a + n ≤ N0) (hb : b + n ≤ N1) (hN : N0 < 2 ^ 31 ∧ N1 < 2 ^ 31) (hR : 1 ≤ R.frames) (hR2 : 41 ≤ R.locals) (k : mM g l md p e R s m args below meth c n0 t0 Q (np, L, [], sp, mCpL σ q0 q1 a b n)) : mM g l md p e R s m args below meth c n0 t0 Q (pc, L, [.int (nI n), .int (nI b), .ref q1, .int (nI a), .ref q0], sp, σ) := by
  obtain ⟨hd0, -, hx0⟩ := mRow_ok hok.1 hr
  simp only [mRx, Bool.and_eq_true, decide_eq_true_eq] at hx0
  have hd : decode md.2.2.1 pc = .ok (.invokestatic i, 3) := mDec hd0 hx0.1
  have enp := hx0.1
  subst enp
  intro hn ht H locs ls hP hS hl
  show W p l e R s m args below meth c H locs _ _ Q (F0 m pc ls [.int (nI n), .int (nI b), .ref (mAl (mGh g) q1), .int (nI a), .ref (mAl (mGh g) q0)])
  rw [mAl_lt l0, mAl_lt l1]
  refine va_copyl (own := mCn md.2.1) hX.1 hX.2.1 (by rw [hX.2.2.1]; exact hl.2.1.symm) hX.2.2.2.1 (hX.2.2.2.2.1 _ hl0) (hX.2.2.2.2.1 _ mCp_in.1) (hX.2.2.2.2.1 _ mCp_in.2.1) (hX.2.2.2.2.1 _ mCp_in.2.2) hX.2.2.2.2.2.1.1 hP (mWl_D g sp σ) hS q0 q1 1 1 (ty := .long) (mWl_at (g := g) (σ := σ) h0) (mWl_at (g := g) (σ := σ) h1) rfl rfl rfl (nI_pos (by omega)) (nI_pos (by omega)) (nI_pos (by omega)) (by rw [nI_clamp (by omega), nI_clamp (by omega)]; exact ha) (by rw [nI_clamp (by omega), nI_clamp (by omega)]; exact hb) (fun _ _ => rfl) hR (by have := mCp_w; simp only [List.map_nil, List.sum_nil]; omega) hd (fun H1 locs1 h1' _ h3 => ?_)
  rw [nI_clamp (by omega), nI_clamp (by omega), nI_clamp (by omega)] at h1'
  rw [mWl_set (σ' := mCpL σ q0 q1 a b n) rfl h1 (by simp [mCell, mCpL]) (fun _ _ => rfl) (fun j sh hj => by simp [mCell, mFs, mFv, mCpL, hj])] at h1'
  exact k hn ht H1 locs1 ls h1' h3 hl
theorem mCpD_ok (hX : mX g md p s m args meth c n0) (hok : mOkP md) {pc np bb cc i q0 q1 N0 N1 a b n : Nat} {v : Int32} {w : Int64} {r0 r1 : List (Option Nat)} {L : mLs} {sp : mSh} {σ : mHp} (hr : mIn md.2.2.2.2.2 pc = some (.invokestatic i, np, 1000, bb, cc, v, w)) (hl0 : Cond.methodLink (mCn md.2.1) i arraycopyName ∈ mTB) (h0 : sp[q0]? = some (102, N0, r0)) (h1 : sp[q1]? = some (102, N1, r1)) (l0 : q0 < 1000000) (l1 : q1 < 1000000) (ha : a + n ≤ N0) (hb : b + n ≤ N1) (hN : N0 < 2 ^ 31 ∧ N1 < 2 ^ 31) (hR : 1 ≤ R.frames) (hR2 : 41 ≤ R.locals) (k : mM g l md p e R s m args below meth c n0 t0 Q (np, L, [], sp, mCpD σ q0 q1 a b n)) : mM g l md p e R s m args below meth c n0 t0 Q (pc, L, [.int (nI n), .int (nI b), .ref q1, .int (nI a), .ref q0], sp, σ) := by
  obtain ⟨hd0, -, hx0⟩ := mRow_ok hok.1 hr
  simp only [mRx, Bool.and_eq_true, decide_eq_true_eq] at hx0
  have hd : decode md.2.2.1 pc = .ok (.invokestatic i, 3) := mDec hd0 hx0.1
  have enp := hx0.1
  subst enp
  intro hn ht H locs ls hP hS hl
  show W p l e R s m args below meth c H locs _ _ Q (F0 m pc ls [.int (nI n), .int (nI b), .ref (mAl (mGh g) q1), .int (nI a), .ref (mAl (mGh g) q0)])
  rw [mAl_lt l0, mAl_lt l1]
  refine va_copyd (own := mCn md.2.1) hX.1 hX.2.1 (by rw [hX.2.2.1]; exact hl.2.1.symm) hX.2.2.2.1 (hX.2.2.2.2.1 _ hl0) (hX.2.2.2.2.1 _ mCp_in.1) (hX.2.2.2.2.1 _ mCp_in.2.1) (hX.2.2.2.2.1 _ mCp_in.2.2) hX.2.2.2.2.2.1.1 hP (mWl_D g sp σ) hS q0 q1 2 2 (ty := .double) (mWl_at (g := g) (σ := σ) h0) (mWl_at (g := g) (σ := σ) h1) rfl rfl rfl (nI_pos (by omega)) (nI_pos (by omega)) (nI_pos (by omega)) (by rw [nI_clamp (by omega), nI_clamp (by omega)]; exact ha) (by rw [nI_clamp (by omega), nI_clamp (by omega)]; exact hb) (fun _ _ => rfl) hR (by have := mCp_w; simp only [List.map_nil, List.sum_nil]; omega) hd (fun H1 locs1 h1' _ h3 => ?_)
  rw [nI_clamp (by omega), nI_clamp (by omega), nI_clamp (by omega)] at h1'
  rw [mWl_set (σ' := mCpD σ q0 q1 a b n) rfl h1 (by simp [mCell, mCpD]) (fun _ _ => rfl) (fun j sh hj => by simp [mCell, mFs, mFv, mCpD, hj])] at h1'
  exact k hn ht H1 locs1 ls h1' h3 hl
end MS
section MG
variable {g : mG} {l : Launch} {d : Nat} {md : mMd} {n0 t0 : Nat} {Post : Option Value → mSh → mHp → Prop}
theorem mGo_cpI {pc np bb cc i q0 q1 N0 N1 a b n : Nat} {v : Int32} {w : Int64} {r0 r1 : List (Option Nat)} {L : mLs} {sp : mSh} {σ : mHp} (hok : mOkP md) (hr : mIn md.2.2.2.2.2 pc = some (.invokestatic i, np, 1000, bb, cc, v, w)) (hl0 : Cond.methodLink (mCn md.2.1) i arraycopyName ∈ mTB) (h0 : sp[q0]? = some (100, N0, r0)) (h1 : sp[q1]? = some (100, N1, r1)) (l0 : q0 < 1000000) (l1 : q1 < 1000000) (ha : a + n ≤ N0) (hb : b + n ≤ N1) (hN : N0 < 2 ^ 31 ∧ N1 < 2 ^ 31) (hd : 1 ≤ d) (k : mGo g l d md n0 t0 (np, L, [], sp, mCpI σ q0 q1 a b n) Post) : mGo g l d md n0 t0 (pc, L, [.int (nI n), .int (nI b), .ref q1, .int (nI a), .ref q0], sp, σ) Post := by
  obtain ⟨r, sp2, σ2, a1, a2, a3, a4⟩ := k
  exact ⟨r, sp2, σ2, a1, a2, a3, fun p e R s m args below meth c hX b1 b2 b3 b4 => mCpI_ok hX hok hr hl0 h0 h1 l0 l1 ha hb hN (by omega) (by omega) (a4 p e R s m args below meth c hX b1 b2 b3 b4)⟩
theorem mGo_cpL {pc np bb cc i q0 q1 N0 N1 a b n : Nat} {v : Int32} {w : Int64} {r0 r1 : List (Option Nat)} {L : mLs} {sp : mSh} {σ : mHp} (hok : mOkP md) (hr : mIn md.2.2.2.2.2 pc = some (.invokestatic i, np, 1000, bb, cc, v, w)) (hl0 : Cond.methodLink (mCn md.2.1) i arraycopyName ∈ mTB) (h0 : sp[q0]? = some (101, N0, r0)) (h1 : sp[q1]? = some (101, N1, r1)) (l0 : q0 < 1000000) (l1 : q1 < 1000000) (ha : a + n ≤ N0) (hb : b + n ≤ N1) (hN : N0 < 2 ^ 31 ∧ N1 < 2 ^ 31) (hd : 1 ≤ d) (k : mGo g l d md n0 t0 (np, L, [], sp, mCpL σ q0 q1 a b n) Post) : mGo g l d md n0 t0 (pc, L, [.int (nI n), .int (nI b), .ref q1, .int (nI a), .ref q0], sp, σ) Post := by
  obtain ⟨r, sp2, σ2, a1, a2, a3, a4⟩ := k
  exact ⟨r, sp2, σ2, a1, a2, a3, fun p e R s m args below meth c hX b1 b2 b3 b4 => mCpL_ok hX hok hr hl0 h0 h1 l0 l1 ha hb hN (by omega) (by omega) (a4 p e R s m args below meth c hX b1 b2 b3 b4)⟩
theorem mGo_cpD {pc np bb cc i q0 q1 N0 N1 a b n : Nat} {v : Int32} {w : Int64} {r0 r1 : List (Option Nat)} {L : mLs} {sp : mSh} {σ : mHp} (hok : mOkP md) (hr : mIn md.2.2.2.2.2 pc = some (.invokestatic i, np, 1000, bb, cc, v, w)) (hl0 : Cond.methodLink (mCn md.2.1) i arraycopyName ∈ mTB) (h0 : sp[q0]? = some (102, N0, r0)) (h1 : sp[q1]? = some (102, N1, r1)) (l0 : q0 < 1000000) (l1 : q1 < 1000000) (ha : a + n ≤ N0) (hb : b + n ≤ N1) (hN : N0 < 2 ^ 31 ∧ N1 < 2 ^ 31) (hd : 1 ≤ d) (k : mGo g l d md n0 t0 (np, L, [], sp, mCpD σ q0 q1 a b n) Post) : mGo g l d md n0 t0 (pc, L, [.int (nI n), .int (nI b), .ref q1, .int (nI a), .ref q0], sp, σ) Post := by
  obtain ⟨r, sp2, σ2, a1, a2, a3, a4⟩ := k
  exact ⟨r, sp2, σ2, a1, a2, a3, fun p e R s m args below meth c hX b1 b2 b3 b4 => mCpD_ok hX hok hr hl0 h0 h1 l0 l1 ha hb hN (by omega) (by omega) (a4 p e R s m args below meth c hX b1 b2 b3 b4)⟩
end MG
end
section
/-! positions that a search meets, and their ranks -/
abbrev aP : Type := Int64 × Int64
def ix : List aP → aP → Nat
  | [], _ => 0
  | a :: t, p => if a = p then 0 else ix t p + 1
theorem ix_at : ∀ {P : List aP} {p : aP}, p ∈ P → P[ix P p]? = some p := by
  intro P
  induction P with
  | nil => intro p h; simp at h
  | cons a t ih =>
    intro p h
    by_cases e : a = p
    · simp [ix, e]
    · have : p ∈ t := by
        rcases List.mem_cons.mp h with z | z
        · exact absurd z.symm e
        · exact z
      simp [ix, e, ih this]
theorem ix_lt {P : List aP} {p : aP} (h : p ∈ P) : ix P p < P.length := (List.getElem?_eq_some_iff.mp (ix_at h)).1
theorem ix_app : ∀ {P Q : List aP} {p : aP}, p ∈ P → ix (P ++ Q) p = ix P p := by
  intro P
  induction P with
  | nil => intro Q p h; simp at h
  | cons a t ih =>
    intro Q p h
    by_cases e : a = p
    · simp [ix, e]
    · have : p ∈ t := by
        rcases List.mem_cons.mp h with z | z
        · exact absurd z.symm e
        · exact z
      simp [ix, e, ih this]
theorem ix_new : ∀ {P : List aP} {p : aP}, p ∉ P → ix (P ++ [p]) p = P.length := by
  intro P
  induction P with
  | nil => intro p _; simp [ix]
  | cons a t ih =>
    intro p h
    have e : ¬ a = p := fun z => h (by rw [z]; exact List.mem_cons_self)
    have : p ∉ t := fun z => h (List.mem_cons_of_mem _ z)
    simp [ix, e, ih this]
def nd (P : List aP) : Prop := ∀ (i j : Nat) (p : aP), P[i]? = some p → P[j]? = some p → i = j
theorem ix_of {P : List aP} (h : nd P) {i : Nat} {p : aP} (hi : P[i]? = some p) : ix P p = i := h _ _ _ (ix_at (List.mem_of_getElem? hi)) hi
theorem nd_nil : nd [] := fun i j p h _ => by simp at h
theorem nd_app {P : List aP} {p : aP} (h : nd P) (hp : p ∉ P) : nd (P ++ [p]) := by
  have key : ∀ (i : Nat) (q : aP), (P ++ [p])[i]? = some q → (i < P.length ∧ P[i]? = some q) ∨ (i = P.length ∧ q = p) := by
    intro i q hq
    rcases Nat.lt_or_ge i P.length with z | z
    · rw [List.getElem?_append_left z] at hq; exact Or.inl ⟨z, hq⟩
    · have hl := (List.getElem?_eq_some_iff.mp hq).1
      simp at hl
      have e : i = P.length := by omega
      subst e
      simp at hq
      exact Or.inr ⟨rfl, hq.symm⟩
  intro i j q hi hj
  rcases key i q hi with ⟨a1, a2⟩ | ⟨a1, a2⟩ <;> rcases key j q hj with ⟨b1, b2⟩ | ⟨b1, b2⟩
  · exact h i j q a2 b2
  · exact absurd (b2 ▸ List.mem_of_getElem? a2) hp
  · exact absurd (a2 ▸ List.mem_of_getElem? b2) hp
  · omega
/-- a position is met -/
def addP (P : List aP) (p : aP) : List aP := if p ∈ P then P else if P.length ≤ 300 then P ++ [p] else P
def pfx (P Q : List aP) : Prop := ∃ t, Q = P ++ t
theorem pfx.refl {P : List aP} : pfx P P := ⟨[], by simp⟩
theorem pfx.trans {P Q R : List aP} (h1 : pfx P Q) (h2 : pfx Q R) : pfx P R := by
  obtain ⟨t, rfl⟩ := h1
  obtain ⟨u, rfl⟩ := h2
  exact ⟨t ++ u, by simp⟩
theorem pfx.mem {P Q : List aP} (h : pfx P Q) {p : aP} (hp : p ∈ P) : p ∈ Q := by
  obtain ⟨t, rfl⟩ := h
  exact List.mem_append_left _ hp
theorem pfx.at {P Q : List aP} (h : pfx P Q) {i : Nat} {p : aP} (hp : P[i]? = some p) : Q[i]? = some p := by
  obtain ⟨t, rfl⟩ := h
  rw [List.getElem?_append_left (List.getElem?_eq_some_iff.mp hp).1]; exact hp
theorem pfx.ix {P Q : List aP} (h : pfx P Q) {p : aP} (hp : p ∈ P) : ix Q p = ix P p := by
  obtain ⟨t, rfl⟩ := h
  exact ix_app hp
theorem pfx.len {P Q : List aP} (h : pfx P Q) : P.length ≤ Q.length := by
  obtain ⟨t, rfl⟩ := h
  simp
theorem addP_pfx (P : List aP) (p : aP) : pfx P (addP P p) := by
  unfold addP
  split
  · exact pfx.refl
  · split
    · exact ⟨[p], rfl⟩
    · exact pfx.refl
theorem addP_nd {P : List aP} (h : nd P) (p : aP) : nd (addP P p) := by
  unfold addP
  split
  · exact h
  · rename_i hp
    split
    · exact nd_app h hp
    · exact h
theorem addP_len {P : List aP} (p : aP) (h : P.length ≤ 301) : (addP P p).length ≤ 301 := by
  unfold addP
  split
  · exact h
  · split
    · simp; omega
    · exact h
theorem addP_mem {P : List aP} {p : aP} (h : (addP P p).length ≤ 300) : p ∈ addP P p := by
  unfold addP at h ⊢
  split at h
  · rename_i hp; rw [if_pos hp]; exact hp
  · rename_i hp
    rw [if_neg hp]
    split at h
    · rename_i hl; rw [if_pos hl]; simp
    · omega
def meets (P : List aP) : List aP → List aP
  | [] => P
  | p :: t => meets (addP P p) t
theorem meets_app (t : List aP) : ∀ (s : List aP) (P : List aP), meets P (s ++ t) = meets (meets P s) t := by
  intro s
  induction s with
  | nil => intro P; rfl
  | cons a s ih => intro P; exact ih _
theorem meets_pfx : ∀ (t : List aP) (P : List aP), pfx P (meets P t) := by
  intro t
  induction t with
  | nil => intro P; exact pfx.refl
  | cons a t ih => intro P; exact (addP_pfx P a).trans (ih _)
theorem meets_nd : ∀ (t : List aP) {P : List aP}, nd P → nd (meets P t) := by
  intro t
  induction t with
  | nil => intro P h; exact h
  | cons a t ih => intro P h; exact ih (addP_nd h a)
theorem meets_len : ∀ (t : List aP) {P : List aP}, P.length ≤ 301 → (meets P t).length ≤ 301 := by
  intro t
  induction t with
  | nil => intro P h; exact h
  | cons a t ih => intro P h; exact ih (addP_len a h)
theorem meets_mem : ∀ (t : List aP) {P : List aP}, (meets P t).length ≤ 300 → ∀ p ∈ t, p ∈ meets P t := by
  intro t
  induction t with
  | nil => intro P h p hp; simp at hp
  | cons a t ih =>
    intro P h p hp
    rcases List.mem_cons.mp hp with rfl | hp
    · exact (meets_pfx t (addP P p)).mem (addP_mem (by have := (meets_pfx t (addP P p)).len; have : (meets (addP P p) t).length ≤ 300 := h; omega))
    · exact ih h p hp
theorem meets_full : ∀ (t : List aP) {P : List aP}, 300 < P.length → meets P t = P := by
  intro t
  induction t with
  | nil => intro P h; rfl
  | cons a t ih =>
    intro P h
    have e : addP P a = P := by
      unfold addP
      split
      · rfl
      · rw [if_neg (by omega)]
    show meets (addP P a) t = P
    rw [e]
    exact ih h
section G
variable (F : aF) (man : Nat)
/-- the replies to a move; all of a position -/
def rps (p : aP) (q : Nat × Nat) : List aP := (List.range (rpN F q)).map (fun r => rpP F man p.1 p.2 q r)
def alR (p : aP) : List aP := (mvs F p.1 p.2).flatMap (rps F man p)
def at0 (P : List aP) (i : Nat) : aP := (P[i]?).getD (0, 0)
/-- all descendants, or more than 300 -/
def bfs : Nat → Nat → List aP → List aP
  | 0, _, P => P
  | n + 1, i, P => if i < P.length ∧ P.length ≤ 300 then bfs n (i + 1) (meets P (alR F man (at0 P i))) else P
def clo (P : List aP) (p : aP) : Prop := ∀ q ∈ mvs F p.1 p.2, ∀ x ∈ rps F man p q, x ∈ P
/-- a move through which position i gets a rank below L -/
def winB (P : List aP) (R : Nat → Nat) (L i : Nat) : Bool := (mvs F (at0 P i).1 (at0 P i).2).any (fun q => (rps F man (at0 P i) q).all (fun x => decide (1 ≤ R (ix P x) ∧ R (ix P x) < L)))
def rk (P : List aP) : Nat → Nat → Nat
  | 0, _ => 0
  | L + 1, i => if rk P L i = 0 ∧ winB F man P (rk P L) (L + 1) i = true then L + 1 else rk P L i
end G
section G
variable {F : aF} {man : Nat}
theorem bfs_pfx : ∀ (n i : Nat) (P : List aP), pfx P (bfs F man n i P) := by
  intro n
  induction n with
  | zero => intro i P; exact pfx.refl
  | succ n ih =>
    intro i P
    simp only [bfs]
    split
    · exact (meets_pfx _ _).trans (ih _ _)
    · exact pfx.refl
theorem bfs_nd : ∀ (n i : Nat) {P : List aP}, nd P → nd (bfs F man n i P) := by
  intro n
  induction n with
  | zero => intro i P h; exact h
  | succ n ih =>
    intro i P h
    simp only [bfs]
    split
    · exact ih _ (meets_nd _ h)
    · exact h
theorem bfs_len : ∀ (n i : Nat) {P : List aP}, P.length ≤ 301 → (bfs F man n i P).length ≤ 301 := by
  intro n
  induction n with
  | zero => intro i P h; exact h
  | succ n ih =>
    intro i P h
    simp only [bfs]
    split
    · exact ih _ (meets_len _ h)
    · exact h
theorem rk_le {P : List aP} : ∀ (L i : Nat), rk F man P L i ≤ L := by
  intro L
  induction L with
  | zero => intro i; exact Nat.le_refl _
  | succ L ih =>
    intro i
    simp only [rk]
    split
    · exact Nat.le_refl _
    · have := ih i; omega
theorem winB_congr {P : List aP} {R R1 : Nat → Nat} {L L1 i : Nat} (h : ∀ q ∈ mvs F (at0 P i).1 (at0 P i).2, ∀ x ∈ rps F man (at0 P i) q, (1 ≤ R (ix P x) ∧ R (ix P x) < L) ↔ (1 ≤ R1 (ix P x) ∧ R1 (ix P x) < L1)) : winB F man P R L i = winB F man P R1 L1 i := by
  unfold winB
  rw [Bool.eq_iff_iff, List.any_eq_true, List.any_eq_true]
  constructor
  · rintro ⟨q, hq, hx⟩
    refine ⟨q, hq, List.all_eq_true.mpr (fun x hx1 => ?_)⟩
    have := List.all_eq_true.mp hx x hx1
    exact decide_eq_true ((h q hq x hx1).mp (of_decide_eq_true this))
  · rintro ⟨q, hq, hx⟩
    refine ⟨q, hq, List.all_eq_true.mpr (fun x hx1 => ?_)⟩
    have := List.all_eq_true.mp hx x hx1
    exact decide_eq_true ((h q hq x hx1).mpr (of_decide_eq_true this))
theorem clo_lt {P : List aP} {i : Nat} (h : clo F man P (at0 P i)) {q : Nat × Nat} (hq : q ∈ mvs F (at0 P i).1 (at0 P i).2) {x : aP} (hx : x ∈ rps F man (at0 P i) q) : ix P x < P.length := ix_lt (h q hq x hx)
/-- where a round finds nothing, no later one does -/
theorem rk_stop {P : List aP} (hc : ∀ i, i < P.length → clo F man P (at0 P i)) {L : Nat} (h : ∀ i, i < P.length → rk F man P (L + 1) i = rk F man P L i) : ∀ M i, i < P.length → rk F man P (L + M) i = rk F man P L i := by
  intro M
  induction M with
  | zero => intro i _; rfl
  | succ M ih =>
    intro i hi
    have e1 := ih i hi
    rw [show L + (M + 1) = (L + M) + 1 by omega]
    simp only [rk]
    have hw : winB F man P (rk F man P (L + M)) (L + M + 1) i = winB F man P (rk F man P L) (L + 1) i := by
      apply winB_congr
      intro q hq x hx
      rw [ih _ (clo_lt (hc i hi) hq hx)]
      have := rk_le (F := F) (man := man) (P := P) L (ix P x)
      constructor
      · intro z; exact ⟨z.1, by omega⟩
      · intro z; exact ⟨z.1, by omega⟩
    rw [hw, e1]
    have h0 := h i hi
    simp only [rk] at h0
    by_cases z : rk F man P L i = 0 ∧ winB F man P (rk F man P L) (L + 1) i = true
    · rw [if_pos z] at h0
      have := rk_le (F := F) (man := man) (P := P) L i
      omega
    · rw [if_neg z]
/-- how many of the first n are not 0 -/
def cnt (f : Nat → Nat) : Nat → Nat
  | 0 => 0
  | n + 1 => cnt f n + if f n = 0 then 0 else 1
theorem cnt_le (f : Nat → Nat) : ∀ n, cnt f n ≤ n := by
  intro n
  induction n with
  | zero => exact Nat.le_refl _
  | succ n ih => simp only [cnt]; split <;> omega
theorem cnt_all {f : Nat → Nat} : ∀ {n : Nat}, cnt f n = n → ∀ i, i < n → f i ≠ 0 := by
  intro n
  induction n with
  | zero => intro _ i hi; omega
  | succ n ih =>
    intro h i hi
    have := cnt_le f n
    simp only [cnt] at h
    split at h
    · omega
    · rename_i hn
      rcases Nat.lt_or_ge i n with z | z
      · exact ih (by omega) i z
      · have : i = n := by omega
        subst this; exact hn
theorem cnt_mono {f f1 : Nat → Nat} : ∀ {n : Nat}, (∀ i, i < n → f i ≠ 0 → f1 i ≠ 0) → cnt f n ≤ cnt f1 n := by
  intro n
  induction n with
  | zero => intro _; exact Nat.le_refl _
  | succ n ih =>
    intro h
    have h1 := ih (fun i hi => h i (by omega))
    have h2 := h n (by omega)
    simp only [cnt]
    by_cases z : f n = 0
    · rw [if_pos z]; split <;> omega
    · rw [if_neg z, if_neg (h2 z)]; omega
theorem cnt_more {f f1 : Nat → Nat} : ∀ {n : Nat}, (∀ i, i < n → f i ≠ 0 → f1 i ≠ 0) → ∀ j, j < n → f j = 0 → f1 j ≠ 0 → cnt f n + 1 ≤ cnt f1 n := by
  intro n
  induction n with
  | zero => intro _ j hj; omega
  | succ n ih =>
    intro h j hj h1 h2
    simp only [cnt]
    rcases Nat.lt_or_ge j n with z | z
    · have := ih (fun i hi => h i (by omega)) j z h1 h2
      have h3 := h n (by omega)
      by_cases y : f n = 0
      · rw [if_pos y]; split <;> omega
      · rw [if_neg y, if_neg (h3 y)]; omega
    · have e : j = n := by omega
      subst e
      have := cnt_mono (n := j) (fun i hi => h i (by omega))
      rw [if_pos h1, if_neg h2]; omega
theorem rk_keep {P : List aP} {L i : Nat} (h : rk F man P L i ≠ 0) : rk F man P (L + 1) i = rk F man P L i := by
  simp only [rk]
  rw [if_neg (fun z => h z.1)]
/-- after a round for each position there is no other rank -/
theorem rk_top {P : List aP} (hc : ∀ i, i < P.length → clo F man P (at0 P i)) : ∀ M i, i < P.length → rk F man P (P.length + M) i = rk F man P P.length i := by
  have key : ∀ L, (∃ K, K ≤ L ∧ ∀ i, i < P.length → rk F man P (K + 1) i = rk F man P K i) ∨ L ≤ cnt (rk F man P L) P.length := by
    intro L
    induction L with
    | zero => exact Or.inr (Nat.zero_le _)
    | succ L ih =>
      rcases ih with ⟨K, h1, h2⟩ | h
      · exact Or.inl ⟨K, by omega, h2⟩
      · by_cases z : ∀ i, i < P.length → rk F man P (L + 1) i = rk F man P L i
        · exact Or.inl ⟨L, by omega, z⟩
        · have : ∃ i, i < P.length ∧ rk F man P (L + 1) i ≠ rk F man P L i := by
            apply Classical.byContradiction
            intro y
            exact z (fun i hi => Classical.byContradiction (fun x => y ⟨i, hi, x⟩))
          obtain ⟨i, hi, hne⟩ := this
          have h0 : rk F man P L i = 0 := Classical.byContradiction (fun y => hne (rk_keep y))
          have := cnt_more (f := rk F man P L) (f1 := rk F man P (L + 1)) (n := P.length) (fun j _ hj => by rw [rk_keep hj]; exact hj) i hi h0 (by rw [h0] at hne; exact hne)
          exact Or.inr (by omega)
  have stop : ∀ i, i < P.length → rk F man P (P.length + 1) i = rk F man P P.length i := by
    rcases key P.length with ⟨K, h1, h2⟩ | h
    · intro i hi
      have a := rk_stop hc h2 (P.length + 1 - K) i hi
      have b := rk_stop hc h2 (P.length - K) i hi
      rw [show K + (P.length + 1 - K) = P.length + 1 by omega] at a
      rw [show K + (P.length - K) = P.length by omega] at b
      rw [a, b]
    · intro i hi
      have := cnt_le (rk F man P P.length) P.length
      exact rk_keep (cnt_all (by omega) i hi)
  exact rk_stop hc stop
/-- a round that finds nothing gives the last ranks -/
theorem rk_last {P : List aP} (hc : ∀ i, i < P.length → clo F man P (at0 P i)) {L : Nat} (h : ∀ i, i < P.length → rk F man P (L + 1) i = rk F man P L i) : ∀ i, i < P.length → rk F man P L i = rk F man P P.length i := by
  intro i hi
  rcases Nat.le_total L P.length with z | z
  · have := rk_stop hc h (P.length - L) i hi
    rw [show L + (P.length - L) = P.length by omega] at this
    exact this.symm
  · have := rk_top hc (L - P.length) i hi
    rw [show P.length + (L - P.length) = L by omega] at this
    exact this
/-- nobody without a rank could have got one before -/
theorem rk_not {P : List aP} {L i : Nat} (h : rk F man P (L + 1) i = 0) : winB F man P (rk F man P (L + 1)) (L + 1) i = false := by
  simp only [rk] at h
  have h1 : ¬ (rk F man P L i = 0 ∧ winB F man P (rk F man P L) (L + 1) i = true) := fun z => by rw [if_pos z] at h; omega
  rw [if_neg h1] at h
  have h2 : winB F man P (rk F man P L) (L + 1) i = false := by simpa using fun z => h1 ⟨h, z⟩
  rw [← h2]
  apply winB_congr
  intro q hq x hx
  have := rk_le (F := F) (man := man) (P := P) L (ix P x)
  simp only [rk]
  by_cases z : rk F man P L (ix P x) = 0 ∧ winB F man P (rk F man P L) (L + 1) (ix P x) = true
  · rw [if_pos z]; omega
  · rw [if_neg z]
end G
end
section
/-! the reference: positions are met -/
/-- nothing has changed but the cells cs -/
def fs (cs : List Nat) (σ σ1 : mHp) : Prop := ∀ i, i ∉ cs → σ1.1 i = σ.1 i ∧ σ1.2.1 i = σ.2.1 i ∧ σ1.2.2 i = σ.2.2 i
theorem fs.refl {cs : List Nat} {σ : mHp} : fs cs σ σ := fun _ _ => ⟨rfl, rfl, rfl⟩
theorem fs.trans {cs : List Nat} {σ σ1 σ2 : mHp} (h1 : fs cs σ σ1) (h2 : fs cs σ1 σ2) : fs cs σ σ2 := fun i hi => by
  obtain ⟨a, b, c⟩ := h1 i hi
  obtain ⟨x, y, z⟩ := h2 i hi
  exact ⟨x.trans a, y.trans b, z.trans c⟩
theorem fs.wide {cs cs2 : List Nat} {σ σ1 : mHp} (h : fs cs σ σ1) (h1 : ∀ i ∈ cs, i ∈ cs2) : fs cs2 σ σ1 := fun i hi => h i (fun q => hi (h1 i q))
theorem fs.WI {cs : List Nat} {i k : Nat} {v : Int32} {σ σ1 : mHp} (h : fs cs σ σ1) (h1 : i ∈ cs) : fs cs σ (mWI σ1 i k v) := fun j hj => by
  obtain ⟨a, b, c⟩ := h j hj
  have ne : ¬ j = i := fun z => hj (z ▸ h1)
  exact ⟨by rw [← a]; simp only [mWI]; rw [if_neg ne], b, c⟩
theorem fs.WL {cs : List Nat} {i k : Nat} {v : Int64} {σ σ1 : mHp} (h : fs cs σ σ1) (h1 : i ∈ cs) : fs cs σ (mWL σ1 i k v) := fun j hj => by
  obtain ⟨a, b, c⟩ := h j hj
  have ne : ¬ j = i := fun z => hj (z ▸ h1)
  exact ⟨a, by rw [← b]; simp only [mWL]; rw [if_neg ne], c⟩
theorem fs_fr {lo hi : Nat} {cs : List Nat} {σ σ1 : mHp} (h : fr lo hi σ σ1) (h1 : ∀ i, lo ≤ i → i < hi → i ∈ cs) : fs cs σ σ1 := fun i hi => h i (fun z => hi (h1 i z.1 z.2))
/-- what the reference changes while it searches -/
def frS (σ σ1 : mHp) : Prop := fs [48, 57, 58, 59] σ σ1 ∧ fm [15, 16, 18, 19, 23] σ σ1
theorem frS.refl {σ : mHp} : frS σ σ := ⟨fs.refl, fm.refl⟩
theorem frS.trans {σ σ1 σ2 : mHp} (h1 : frS σ σ1) (h2 : frS σ1 σ2) : frS σ σ2 := ⟨h1.1.trans h2.1, h1.2.trans h2.2⟩
theorem frS_48 {σ σ1 : mHp} {ks : List Nat} (h : fr 48 49 σ σ1) (hm : fm ks σ σ1) (hk : ∀ k ∈ ks, k ∈ [15, 16, 18, 19, 23]) : frS σ σ1 := by
  refine ⟨fs_fr h (fun i h1 h2 => ?_), hm.wide hk⟩
  have e : i = 48 := by omega
  subst e
  simp
theorem frS.mF {σ σ1 : mHp} {F : aF} (h : frS σ σ1) (hm : mF σ F) : mF σ1 F := by
  refine ⟨by rw [(h.2 0 (by decide)).1]; exact hm.1, fun j hj => ?_⟩
  rw [(h.1 49 (by decide)).1, (h.1 50 (by decide)).1, (h.1 51 (by decide)).1]
  exact hm.2 j hj
/-- the positions met, and their ranks -/
def sM (σ : mHp) (P : List aP) (R : Nat → Nat) : Prop := σ.1 48 23 = nI P.length ∧ ∀ i p, P[i]? = some p → σ.2.1 57 i = p.1 ∧ σ.2.1 58 i = p.2 ∧ σ.1 59 i = nI (R i)
theorem sM_L {σ σ1 : mHp} {P : List aP} {R : Nat → Nat} (h : fr 48 49 σ σ1) (hm : fm [15, 16, 18, 19] σ σ1) (hs : sM σ P R) : sM σ1 P R := by
  refine ⟨by rw [(hm 23 (by decide)).1]; exact hs.1, fun i p hp => ?_⟩
  rw [(h 57 (by omega)).2.1, (h 58 (by omega)).2.1, (h 59 (by omega)).1]
  exact hs.2 i p hp
section T
variable {g : mG} {l : Launch} {d : Nat} {lk : Nat} {ex : mSh} {σ : mHp} {F : aF} {man : Nat} {P : List aP} {R : Nat → Nat}
theorem m_placeOf (hs : sM σ P R) (hn : nd P) (hl : P.length ≤ 301) (p : aP) : mNP g l d 158 [.ref 48, .long p.1, .long p.2] lk ex σ (.int (if p ∈ P then nI (ix P p) else -5)) := by
  have ok : mOkP md_X9_placeOf := ok_at 158 (by decide) rfl
  refine mC_of (md := md_X9_placeOf) rfl (lt_at (by decide)) rfl ?_
  refine mGo_runS 3 (n := 400) ok rfl ?_
  have loop : ∀ m i, i + m = P.length → (∀ j, j < i → P[j]? ≠ some p) → mGo g l d md_X9_placeOf (SH lk ex).length (mTot (SH lk ex)) (3, [some (.ref 48), some (.long p.1), none, some (.long p.2), none, some (.int (nI i))], [], SH lk ex, σ) (fun r sp σ1 => r = some (.int (if p ∈ P then nI (ix P p) else -5)) ∧ sp = SH lk ex ∧ σ1 = σ) := by
    intro m
    induction m with
    | zero =>
      intro i hi hb
      have hno : p ∉ P := fun z => hb _ (by have := ix_lt z; omega) (ix_at z)
      refine mGo_run (n := 400) ok rfl ?_
      rw [hs.1]
      refine mGo_ifI ok rfl (nI_leI (a := P.length) (b := i) (by omega) (by omega)) (fun h => ?_) (fun h => ?_)
      · refine mGo_run (n := 400) ok rfl ?_
        exact mGo_ret ok rfl trivial (⟨by rw [if_neg hno], rfl, rfl⟩)
      · omega
    | succ m ih =>
      intro i hi hb
      have hil : i < P.length := by omega
      obtain ⟨s1, s2, s3⟩ := hs.2 i P[i] (List.getElem?_eq_getElem hil)
      have next : P[i]? ≠ some p → mGo g l d md_X9_placeOf (SH lk ex).length (mTot (SH lk ex)) (39, [some (.ref 48), some (.long p.1), none, some (.long p.2), none, some (.int (nI i))], [], SH lk ex, σ) (fun r sp σ1 => r = some (.int (if p ∈ P then nI (ix P p) else -5)) ∧ sp = SH lk ex ∧ σ1 = σ) := by
        intro hne
        refine mGo_runS 3 (n := 400) ok rfl ?_
        rw [nI_1]
        exact ih (i + 1) (by omega) (fun j hj => by
          rcases Nat.lt_or_ge j i with z | z
          · exact hb j z
          · have : j = i := by omega
            subst this; exact hne)
      refine mGo_run (n := 400) ok rfl ?_
      rw [hs.1]
      refine mGo_ifI ok rfl (nI_leI (a := P.length) (b := i) (by omega) (by omega)) (fun h => ?_) (fun h => ?_)
      · omega
      · refine mGo_run (n := 400) ok rfl ?_
        refine mGo_side ok rfl (nI_in (by omega) (by omega)) ?_
        rw [nI_clamp (n := i) (by omega), s1]
        refine mGo_run (n := 400) ok rfl ?_
        refine mGo_ifI ok rfl (lg0) (fun h1 => ?_) (fun h1 => ?_)
        · refine mGo_run (n := 400) ok rfl ?_
          refine mGo_side ok rfl (nI_in (by omega) (by omega)) ?_
          rw [nI_clamp (n := i) (by omega), s2]
          refine mGo_run (n := 400) ok rfl ?_
          refine mGo_ifI ok rfl (lg0) (fun h2 => ?_) (fun h2 => ?_)
          · have e : P[i]? = some p := by rw [List.getElem?_eq_getElem hil]; exact congrArg some (Prod.ext h1 h2)
            refine mGo_run (n := 400) ok rfl ?_
            exact mGo_ret ok rfl trivial (⟨by rw [if_pos (List.mem_of_getElem? e), ix_of hn e], rfl, rfl⟩)
          · exact next (fun z => h2 (by rw [List.getElem?_eq_getElem hil] at z; rw [Option.some.inj z]))
        · exact next (fun z => h1 (by rw [List.getElem?_eq_getElem hil] at z; rw [Option.some.inj z]))
  exact loop P.length 0 (by omega) (fun j hj => by omega)
theorem m_stand (hs : sM σ P R) (hl : P.length ≤ 301) {i : Nat} (hi : i < P.length) : mNV g l d 160 [.ref 48, .int (nI i)] lk ex σ (fun σ1 => σ1 = mWL (mWL σ 48 15 (at0 P i).1) 48 16 (at0 P i).2) := by
  have e0 : at0 P i = P[i] := by unfold at0; rw [List.getElem?_eq_getElem hi]; rfl
  obtain ⟨s1, s2, s3⟩ := hs.2 i P[i] (List.getElem?_eq_getElem hi)
  rw [e0]
  have ok : mOkP md_X9_stand := ok_at 160 (by decide) rfl
  refine mC_of (md := md_X9_stand) rfl (lt_at (by decide)) rfl ?_
  refine mGo_run (n := 400) ok rfl ?_
  refine mGo_side ok rfl (nI_in (by omega) (by omega)) ?_
  rw [nI_clamp (n := i) (by omega), s1]
  refine mGo_run (n := 400) ok rfl ?_
  refine mGo_side ok rfl (nI_in (by omega) (by omega)) ?_
  rw [nI_clamp (by omega), show (mWL σ 48 15 P[i].1).2.1 58 i = P[i].2 by rw [WL_at, if_neg (by omega)]; exact s2]
  refine mGo_run (n := 400) ok rfl ?_
  exact mGo_ret ok rfl trivial (⟨rfl, rfl, rfl⟩)
theorem m_meet (hs : sM σ P (fun _ => 0)) (hn : nd P) (hl : P.length ≤ 301) {p : aP} (hq : mQ σ p.1 p.2) : mNV g l (d + 1) 159 [.ref 48] lk ex σ (fun σ1 => frS σ σ1 ∧ fm [23] σ σ1 ∧ sM σ1 (addP P p) (fun _ => 0)) := by
  have ok : mOkP md_X9_meet := ok_at 159 (by decide) rfl
  refine mC_of (md := md_X9_meet) rfl (lt_at (by decide)) rfl ?_
  refine mGo_run (n := 400) ok rfl ?_
  rw [hq.1, hq.2]
  refine mGo_callP ok rfl (by omega) (m_placeOf (d := d) hs hn hl p) ?_
  refine mGo_run (n := 400) ok rfl ?_
  by_cases hp : p ∈ P
  · rw [if_pos hp, show addP P p = P by unfold addP; rw [if_pos hp]]
    have := ix_lt hp
    refine mGo_if ok rfl (fun h => ?_) (fun h => ?_)
    · exact absurd (show nI (ix P p) < 0 by rw [h]; decide) (nI_pos (by omega))
    · refine mGo_run (n := 400) ok rfl ?_
      exact mGo_ret ok rfl trivial (⟨rfl, rfl, frS.refl, fm.refl, hs⟩)
  · rw [if_neg hp]
    refine mGo_if ok rfl (fun h => ?_) (fun h => ?_)
    · refine mGo_run (n := 400) ok rfl ?_
      rw [hs.1]
      refine mGo_ifI ok rfl (nI_ltI (a := 300) (b := P.length) (by omega) (by omega)) (fun h1 => ?_) (fun h1 => ?_)
      · refine mGo_run (n := 400) ok rfl ?_
        exact mGo_ret ok rfl trivial (⟨rfl, rfl, frS.refl, fm.refl, by rw [show addP P p = P by unfold addP; rw [if_neg hp, if_neg (by omega)]]; exact hs⟩)
      · refine mGo_run (n := 400) ok rfl ?_
        rw [hs.1, hq.1]
        refine mGo_side ok rfl (nI_in (by omega) (by omega)) ?_
        rw [nI_clamp (by omega)]
        refine mGo_run (n := 400) ok rfl ?_
        rw [show (mWL σ 57 P.length p.1).1 48 23 = nI P.length from hs.1, show (mWL σ 57 P.length p.1).2.1 48 16 = p.2 by rw [WL_at, if_neg (by omega)]; exact hq.2]
        refine mGo_side ok rfl (nI_in (by omega) (by omega)) ?_
        rw [nI_clamp (by omega)]
        refine mGo_run (n := 400) ok rfl ?_
        rw [show (mWL (mWL σ 57 P.length p.1) 58 P.length p.2).1 48 23 = nI P.length from hs.1]
        refine mGo_side ok rfl (nI_in (by omega) (by omega)) ?_
        rw [nI_clamp (by omega)]
        refine mGo_run (n := 400) ok rfl ?_
        rw [show (mWI (mWL (mWL σ 57 P.length p.1) 58 P.length p.2) 59 P.length 0).1 48 23 = nI P.length by rw [WI_at, if_neg (by omega)]; exact hs.1, nI_1]
        have ea : addP P p = P ++ [p] := by unfold addP; rw [if_neg hp, if_pos (by omega)]
        refine mGo_ret ok rfl trivial ⟨rfl, rfl, ⟨((((fs.refl.WL (by decide)).WL (by decide)).WI (by decide)).WI (by decide)), ((((fm.refl.WL (fun z => absurd z (by decide))).WL (fun z => absurd z (by decide))).WI (fun z => absurd z (by decide))).WI (fun _ => by decide))⟩, ((((fm.refl.WL (fun z => absurd z (by decide))).WL (fun z => absurd z (by decide))).WI (fun z => absurd z (by decide))).WI (fun _ => by decide)), ?_⟩
        rw [ea]
        refine ⟨by rw [WI_at, if_pos ⟨rfl, rfl⟩]; simp, fun i x hx => ?_⟩
        rcases Nat.lt_or_ge i P.length with z | z
        · rw [List.getElem?_append_left z] at hx
          obtain ⟨s1, s2, s3⟩ := hs.2 i x hx
          have ne : ¬ i = P.length := by omega
          refine ⟨?_, ?_, ?_⟩
          · show (mWL (mWL σ 57 P.length p.1) 58 P.length p.2).2.1 57 i = _
            rw [WL_at, if_neg (by omega), WL_at, if_neg (fun y => ne y.2)]; exact s1
          · show (mWL (mWL σ 57 P.length p.1) 58 P.length p.2).2.1 58 i = _
            rw [WL_at, if_neg (fun y => ne y.2), WL_at, if_neg (by omega)]; exact s2
          · rw [WI_at, if_neg (by omega), WI_at, if_neg (fun y => ne y.2)]; exact s3
        · have hl2 := (List.getElem?_eq_some_iff.mp hx).1
          simp at hl2
          have e : i = P.length := by omega
          subst e
          simp at hx
          subst hx
          refine ⟨?_, ?_, ?_⟩
          · show (mWL (mWL σ 57 P.length p.1) 58 P.length p.2).2.1 57 P.length = _
            rw [WL_at, if_neg (by omega), WL_at, if_pos ⟨rfl, rfl⟩]
          · show (mWL (mWL σ 57 P.length p.1) 58 P.length p.2).2.1 58 P.length = _
            rw [WL_at, if_pos ⟨rfl, rfl⟩]
          · rw [WI_at, if_neg (by omega), WI_at, if_pos ⟨rfl, rfl⟩]; rfl
    · exact absurd rfl h
end T
end
section
/-! the reference: the search -/
theorem range_r (n : Nat) : List.range n = List.range' 0 n := List.range_eq_range'
theorem at0_at {P : List aP} {i : Nat} (hi : i < P.length) : P[i]? = some (at0 P i) := by unfold at0; rw [List.getElem?_eq_getElem hi]; rfl
theorem at0_pfx {P Q : List aP} (h : pfx P Q) {i : Nat} (hi : i < P.length) : at0 Q i = at0 P i := by
  have h1 := h.at (at0_at hi)
  unfold at0 at h1 ⊢
  rw [h1]; rfl
theorem frS_now {σ : mHp} (a b : Int64) : frS σ (mWL (mWL σ 48 15 a) 48 16 b) := frS_48 (frL_now a b).1 (frL_now a b).2 (by decide)
theorem sM_now {σ : mHp} {P : List aP} {R : Nat → Nat} (a b : Int64) (hs : sM σ P R) : sM (mWL (mWL σ 48 15 a) 48 16 b) P R := sM_L (frL_now a b).1 (frL_now a b).2 hs
section T
variable {g : mG} {l : Launch} {d : Nat} {lk : Nat} {ex : mSh} {σ : mHp} {F : aF} {man : Nat} {P : List aP} {R : Nat → Nat}
set_option maxHeartbeats 1000000 in
theorem m_meetAll (hf : fOk F) (hm : mF σ F) (hman : σ.1 48 17 = nI man) (hm1 : man ≤ 1) (hs : sM σ P (fun _ => 0)) (hn : nd P) (hl : P.length ≤ 301) : mNR g l (d + 3) 161 [.ref 48] lk ex σ (.int (bI (decide ((bfs F man 302 0 P).length ≤ 300)))) (fun σ1 => frS σ σ1 ∧ sM σ1 (bfs F man 302 0 P) (fun _ => 0)) := by
  have ok : mOkP md_X9_meetAll := ok_at 161 (by decide) rfl
  refine mC_of (md := md_X9_meetAll) rfl (lt_at (by decide)) rfl ?_
  refine mGo_runS 2 (n := 400) ok rfl ?_
  have outer : ∀ n i, i + n = 302 → ∀ (τ : mHp) (Q : List aP) (L2 L3 L4 L5 : Option Value), frS σ τ → sM τ Q (fun _ => 0) → nd Q → Q.length ≤ 301 → mGo g l (d + 3) md_X9_meetAll (SH lk ex).length (mTot (SH lk ex)) (2, [some (.ref 48), some (.int (nI i)), L2, L3, L4, L5], [], SH lk ex, τ) (fun r sp σ1 => r = some (.int (bI (decide ((bfs F man n i Q).length ≤ 300)))) ∧ sp = SH lk ex ∧ (frS σ σ1 ∧ sM σ1 (bfs F man n i Q) (fun _ => 0))) := by
    intro n
    induction n with
    | zero =>
      intro i hi τ Q L2 L3 L4 L5 ht hsq hnq hlq
      refine mGo_run (n := 400) ok rfl ?_
      rw [hsq.1]
      refine mGo_ifI ok rfl (nI_leI (a := Q.length) (b := i) (by omega) (by omega)) (fun h => ?_) (fun h => ?_)
      · refine mGo_run (n := 400) ok rfl ?_
        rw [hsq.1]
        refine mGo_ifI ok rfl (nI_ltI (a := 300) (b := Q.length) (by omega) (by omega)) (fun h1 => ?_) (fun h1 => ?_)
        · refine mGo_run (n := 400) ok rfl ?_
          exact mGo_ret ok rfl (Or.inl rfl) (⟨by rw [show bfs F man 0 i Q = Q from rfl, decide_eq_false (by omega)]; rfl, rfl, ht, hsq⟩)
        · refine mGo_run (n := 400) ok rfl ?_
          exact mGo_ret ok rfl (Or.inr rfl) (⟨by rw [show bfs F man 0 i Q = Q from rfl, decide_eq_true (by omega)]; rfl, rfl, ht, hsq⟩)
      · omega
    | succ n ih =>
      intro i hi τ Q L2 L3 L4 L5 ht hsq hnq hlq
      have stop : ¬ (i < Q.length ∧ Q.length ≤ 300) → mGo g l (d + 3) md_X9_meetAll (SH lk ex).length (mTot (SH lk ex)) (107, [some (.ref 48), some (.int (nI i)), L2, L3, L4, L5], [], SH lk ex, τ) (fun r sp σ1 => r = some (.int (bI (decide ((bfs F man (n + 1) i Q).length ≤ 300)))) ∧ sp = SH lk ex ∧ (frS σ σ1 ∧ sM σ1 (bfs F man (n + 1) i Q) (fun _ => 0))) := by
        intro hx
        have eb : bfs F man (n + 1) i Q = Q := by simp only [bfs]; rw [if_neg hx]
        rw [eb]
        refine mGo_run (n := 400) ok rfl ?_
        rw [hsq.1]
        refine mGo_ifI ok rfl (nI_ltI (a := 300) (b := Q.length) (by omega) (by omega)) (fun h1 => ?_) (fun h1 => ?_)
        · refine mGo_run (n := 400) ok rfl ?_
          exact mGo_ret ok rfl (Or.inl rfl) (⟨by rw [decide_eq_false (by omega)]; rfl, rfl, ht, hsq⟩)
        · refine mGo_run (n := 400) ok rfl ?_
          exact mGo_ret ok rfl (Or.inr rfl) (⟨by rw [decide_eq_true (by omega)]; rfl, rfl, ht, hsq⟩)
      refine mGo_run (n := 400) ok rfl ?_
      rw [hsq.1]
      refine mGo_ifI ok rfl (nI_leI (a := Q.length) (b := i) (by omega) (by omega)) (fun h => ?_) (fun h => ?_)
      · exact stop (by omega)
      · refine mGo_run (n := 400) ok rfl ?_
        rw [hsq.1]
        refine mGo_ifI ok rfl (nI_ltI (a := 300) (b := Q.length) (by omega) (by omega)) (fun h1 => ?_) (fun h1 => ?_)
        · exact stop (by omega)
        · have eb : bfs F man (n + 1) i Q = bfs F man n (i + 1) (meets Q (alR F man (at0 Q i))) := by simp only [bfs]; rw [if_pos ⟨by omega, by omega⟩]
          rw [eb]
          have hml := mvs_len hf (at0 Q i).1 (at0 Q i).2
          refine mGo_run (n := 400) ok rfl ?_
          refine mGo_callV ok rfl (by omega) (m_stand (d := d) hsq hlq (i := i) (by omega)) (fun τ1 hτ1 => ?_)
          subst hτ1
          refine mGo_run (n := 400) ok rfl ?_
          refine mGo_callP ok rfl (by omega) (m_countMoves (d := d) hf ((ht.trans (frS_now _ _)).mF hm) (c := (at0 Q i).1) (o := (at0 Q i).2) ⟨by simp [WL_at], by simp [WL_at]⟩) ?_
          refine mGo_runS 32 (n := 400) ok rfl ?_
          have moves : ∀ (rest pre : List (Nat × Nat)), mvs F (at0 Q i).1 (at0 Q i).2 = pre ++ rest → ∀ (τ : mHp) (Qc : List aP) (L4 L5 : Option Value), frS σ τ → sM τ Qc (fun _ => 0) → nd Qc → Qc.length ≤ 301 → pfx Q Qc → mGo g l (d + 3) md_X9_meetAll (SH lk ex).length (mTot (SH lk ex)) (32, [some (.ref 48), some (.int (nI i)), some (.int (nI (mvs F (at0 Q i).1 (at0 Q i).2).length)), some (.int (nI pre.length)), L4, L5], [], SH lk ex, τ) (fun r sp σ1 => r = some (.int (bI (decide ((bfs F man n (i + 1) (meets Qc (rest.flatMap (rps F man (at0 Q i))))).length ≤ 300)))) ∧ sp = SH lk ex ∧ (frS σ σ1 ∧ sM σ1 (bfs F man n (i + 1) (meets Qc (rest.flatMap (rps F man (at0 Q i))))) (fun _ => 0))) := by
            intro rest
            induction rest with
            | nil =>
              intro pre hp τ Qc L4 L5 ht hsq hnq hlq hpf
              rw [List.append_nil] at hp
              have hpl : pre.length ≤ 112 := by rw [← hp]; exact hml
              refine mGo_run (n := 400) ok rfl ?_
              refine mGo_ifI ok rfl (nI_leI (a := (mvs F (at0 Q i).1 (at0 Q i).2).length) (b := pre.length) (by omega) (by omega)) (fun h2 => ?_) (fun h2 => ?_)
              · refine mGo_runS 2 (n := 400) ok rfl ?_
                rw [nI_1]
                exact ih (i + 1) (by omega) τ Qc _ _ _ _ ht hsq hnq hlq
              · rw [hp] at h2; omega
            | cons q rest ihm =>
              intro pre hp τ Qc L4 L5 ht hsq hnq hlq hpf
              have hpl : pre.length < (mvs F (at0 Q i).1 (at0 Q i).2).length := by rw [hp]; simp
              have hat : (mvs F (at0 Q i).1 (at0 Q i).2)[pre.length]? = some q := by rw [hp]; simp
              have ho := mvs_at hf hat
              have hr3 := rpN_le F q
              have hiQ : i < Qc.length := by have := hpf.len; omega
              have e0 : at0 Qc i = at0 Q i := at0_pfx hpf (by omega)
              refine mGo_run (n := 400) ok rfl ?_
              refine mGo_ifI ok rfl (nI_leI (a := (mvs F (at0 Q i).1 (at0 Q i).2).length) (b := pre.length) (by omega) (by omega)) (fun h2 => ?_) (fun h2 => ?_)
              · omega
              · refine mGo_run (n := 400) ok rfl ?_
                rw [hsq.1]
                refine mGo_ifI ok rfl (nI_ltI (a := 300) (b := Qc.length) (by omega) (by omega)) (fun h3 => ?_) (fun h3 => ?_)
                · rw [meets_full _ (by omega)]
                  refine mGo_runS 2 (n := 400) ok rfl ?_
                  rw [nI_1]
                  exact ih (i + 1) (by omega) τ Qc _ _ _ _ ht hsq hnq hlq
                · refine mGo_run (n := 400) ok rfl ?_
                  refine mGo_callV ok rfl (by omega) (m_stand (d := d) hsq hlq hiQ) (fun τ1 hτ1 => ?_)
                  rw [e0] at hτ1
                  have t1 : frS σ τ1 := by rw [hτ1]; exact ht.trans (frS_now _ _)
                  have s1 : sM τ1 Qc (fun _ => 0) := by rw [hτ1]; exact sM_now _ _ hsq
                  have q1 : mQ τ1 (at0 Q i).1 (at0 Q i).2 := by rw [hτ1]; exact ⟨by simp [WL_at], by simp [WL_at]⟩
                  clear hτ1
                  refine mGo_run (n := 400) ok rfl ?_
                  refine mGo_callR ok rfl (by omega) (m_find1 (d := d) hf (t1.mF hm) q1 hat) (fun τ2 hτ2 => ?_)
                  have t2 : frS σ τ2 := by rw [hτ2]; exact t1.trans (frS_48 (frL_mv _ _).1 (frL_mv _ _).2 (by decide))
                  have s2 : sM τ2 Qc (fun _ => 0) := by rw [hτ2]; exact sM_L (frL_mv _ _).1 (frL_mv _ _).2 s1
                  have v2 : mV τ2 q := by rw [hτ2]; exact mV_mk q
                  clear hτ2
                  refine mGo_run (n := 400) ok rfl ?_
                  refine mGo_callP ok rfl (by omega) (m_countReplies (d := d) hf (t2.mF hm) v2 ho) ?_
                  refine mGo_runS 67 (n := 400) ok rfl ?_
                  have reps : ∀ m r, r + m = rpN F q → ∀ (τ : mHp) (Qd : List aP), frS σ τ → sM τ Qd (fun _ => 0) → mV τ q → nd Qd → Qd.length ≤ 301 → pfx Q Qd → mGo g l (d + 3) md_X9_meetAll (SH lk ex).length (mTot (SH lk ex)) (67, [some (.ref 48), some (.int (nI i)), some (.int (nI (mvs F (at0 Q i).1 (at0 Q i).2).length)), some (.int (nI pre.length)), some (.int (nI (rpN F q))), some (.int (nI r))], [], SH lk ex, τ) (fun r2 sp σ1 => r2 = some (.int (bI (decide ((bfs F man n (i + 1) (meets (meets Qd ((List.range' r m).map (fun r => rpP F man (at0 Q i).1 (at0 Q i).2 q r))) (rest.flatMap (rps F man (at0 Q i))))).length ≤ 300)))) ∧ sp = SH lk ex ∧ (frS σ σ1 ∧ sM σ1 (bfs F man n (i + 1) (meets (meets Qd ((List.range' r m).map (fun r => rpP F man (at0 Q i).1 (at0 Q i).2 q r))) (rest.flatMap (rps F man (at0 Q i))))) (fun _ => 0))) := by
                    intro m
                    induction m with
                    | zero =>
                      intro r hr τ Qd t s v n1 n2 n3
                      refine mGo_run (n := 400) ok rfl ?_
                      refine mGo_ifI ok rfl (nI_leI (a := rpN F q) (b := r) (by omega) (by omega)) (fun h4 => ?_) (fun h4 => ?_)
                      · refine mGo_runS 32 (n := 400) ok rfl ?_
                        rw [nI_1, show pre.length + 1 = (pre ++ [q]).length by simp]
                        exact ihm (pre ++ [q]) (by rw [hp]; simp) τ Qd _ _ t s n1 n2 n3
                      · omega
                    | succ m ihr =>
                      intro r hr τ Qd t s v n1 n2 n3
                      have hiD : i < Qd.length := by have := n3.len; omega
                      have e1 : at0 Qd i = at0 Q i := at0_pfx n3 (by omega)
                      refine mGo_run (n := 400) ok rfl ?_
                      refine mGo_ifI ok rfl (nI_leI (a := rpN F q) (b := r) (by omega) (by omega)) (fun h4 => ?_) (fun h4 => ?_)
                      · omega
                      · refine mGo_run (n := 400) ok rfl ?_
                        refine mGo_callV ok rfl (by omega) (m_stand (d := d) s n2 hiD) (fun τ3 hτ3 => ?_)
                        rw [e1] at hτ3
                        have t3 : frS σ τ3 := by rw [hτ3]; exact t.trans (frS_now _ _)
                        have s3 : sM τ3 Qd (fun _ => 0) := by rw [hτ3]; exact sM_now _ _ s
                        have q3 : mQ τ3 (at0 Q i).1 (at0 Q i).2 := by rw [hτ3]; exact ⟨by simp [WL_at], by simp [WL_at]⟩
                        have v3 : mV τ3 q := by rw [hτ3]; exact v
                        clear hτ3
                        refine mGo_run (n := 400) ok rfl ?_
                        refine mGo_callV ok rfl (by omega) (m_reply (d := d) hf (t3.mF hm) q3 (by rw [(t3.2 17 (by decide)).1]; exact hman) hm1 v3 ho (r := r) (by omega)) (fun τ4 hτ4 => ?_)
                        have t4 : frS σ τ4 := t3.trans (frS_48 hτ4.1 hτ4.2.1 (by decide))
                        have s4 : sM τ4 Qd (fun _ => 0) := sM_L hτ4.1 (hτ4.2.1.wide (by decide)) s3
                        have v4 : mV τ4 q := ⟨by rw [(hτ4.2.1 18 (by decide)).1]; exact v3.1, by rw [(hτ4.2.1 19 (by decide)).1]; exact v3.2⟩
                        refine mGo_run (n := 400) ok rfl ?_
                        refine mGo_callV ok rfl (by omega) (m_meet (d := d) s4 n1 n2 hτ4.2.2) (fun τ5 hτ5 => ?_)
                        have v5 : mV τ5 q := ⟨by rw [(hτ5.2.1 18 (by decide)).1]; exact v4.1, by rw [(hτ5.2.1 19 (by decide)).1]; exact v4.2⟩
                        refine mGo_runS 67 (n := 400) ok rfl ?_
                        rw [nI_1]
                        exact ihr (r + 1) (by omega) τ5 _ (t4.trans hτ5.1) hτ5.2.2 v5 (addP_nd n1 _) (addP_len _ n2) (n3.trans (addP_pfx _ _))
                  have := reps (rpN F q) 0 (by omega) τ2 Qc t2 s2 v2 hnq hlq hpf
                  rw [← range_r] at this
                  rw [show (q :: rest).flatMap (rps F man (at0 Q i)) = rps F man (at0 Q i) q ++ rest.flatMap (rps F man (at0 Q i)) by simp, meets_app]
                  exact this
          exact moves _ [] rfl _ Q _ _ (ht.trans (frS_now _ _)) (sM_now _ _ hsq) hnq hlq pfx.refl
  exact outer 302 0 (by omega) σ P _ _ _ _ frS.refl hs hn hl
end T
end
section
/-! the reference: ranks -/
def rbA : Nat → List Nat → Nat
  | a, [] => a + 1
  | a, x :: t => if x = 0 then 0 else rbA (if a < x then x else a) t
theorem rbA_iff : ∀ (t : List Nat) (a L : Nat), rbA a t = L + 1 ↔ a ≤ L ∧ (∀ x ∈ t, 1 ≤ x ∧ x ≤ L) ∧ (a = L ∨ L ∈ t) := by
  intro t
  induction t with
  | nil => intro a L; simp [rbA]; omega
  | cons x t ih =>
    intro a L
    simp only [rbA]
    by_cases h : x = 0
    · rw [if_pos h]
      constructor
      · intro z; omega
      · rintro ⟨_, h2, _⟩
        have := h2 x List.mem_cons_self
        omega
    · rw [if_neg h, ih]
      constructor
      · rintro ⟨h1, h2, h3⟩
        by_cases hx : a < x
        · rw [if_pos hx] at h1 h3
          refine ⟨by omega, fun y hy => ?_, ?_⟩
          · rcases List.mem_cons.mp hy with rfl | hy
            · exact ⟨by omega, by omega⟩
            · exact h2 y hy
          · rcases h3 with z | z
            · exact Or.inr (by rw [← z]; exact List.mem_cons_self)
            · exact Or.inr (List.mem_cons_of_mem _ z)
        · rw [if_neg hx] at h1 h3
          refine ⟨by omega, fun y hy => ?_, ?_⟩
          · rcases List.mem_cons.mp hy with rfl | hy
            · exact ⟨by omega, by omega⟩
            · exact h2 y hy
          · rcases h3 with z | z
            · exact Or.inl z
            · exact Or.inr (List.mem_cons_of_mem _ z)
      · rintro ⟨h1, h2, h3⟩
        have hx := h2 x List.mem_cons_self
        refine ⟨by split <;> omega, fun y hy => h2 y (List.mem_cons_of_mem _ hy), ?_⟩
        rcases h3 with z | z
        · rw [if_neg (by omega)]; exact Or.inl z
        · rcases List.mem_cons.mp z with y | y
          · by_cases w : a < x
            · rw [if_pos w]; exact Or.inl y.symm
            · rw [if_neg w]; exact Or.inl (by omega)
          · exact Or.inr y
theorem rbA_le : ∀ (t : List Nat) (a B : Nat), a ≤ B → (∀ x ∈ t, x ≤ B) → rbA a t ≤ B + 1 := by
  intro t
  induction t with
  | nil => intro a B h _; simp [rbA]; omega
  | cons x t ih =>
    intro a B h h2
    simp only [rbA]
    split
    · omega
    · have := h2 x List.mem_cons_self
      exact ih _ B (by split <;> omega) (fun y hy => h2 y (List.mem_cons_of_mem _ hy))
theorem nI_max {a b : Nat} (ha : a < 2 ^ 31) (hb : b < 2 ^ 31) : (if nI a < nI b then nI b else nI a) = nI (if a < b then b else a) := by
  by_cases h : a < b
  · rw [if_pos h, if_pos (nI_lt h hb)]
  · rw [if_neg h, if_neg (nI_nlt (by omega) ha)]
section T
variable {g : mG} {l : Launch} {d : Nat} {lk : Nat} {ex : mSh} {σ : mHp} {F : aF} {man : Nat} {P : List aP} {R : Nat → Nat}
theorem m_rankBy (hf : fOk F) (hm : mF σ F) (hman : σ.1 48 17 = nI man) (hm1 : man ≤ 1) (hs : sM σ P R) (hn : nd P) (hl : P.length ≤ 301) (hR : ∀ i, i < P.length → R i ≤ 400) {i k : Nat} (hi : i < P.length) (hc : clo F man P (at0 P i)) {q : Nat × Nat} (hq : (mvs F (at0 P i).1 (at0 P i).2)[k]? = some q) : mNR g l (d + 2) 162 [.ref 48, .int (nI i), .int (nI k)] lk ex σ (.int (nI (rbA 0 ((rps F man (at0 P i) q).map (fun x => R (ix P x)))))) (frL σ) := by
  have ho := mvs_at hf hq
  have hr3 := rpN_le F q
  have hmem := List.mem_of_getElem? hq
  have ok : mOkP md_X9_rankBy := ok_at 162 (by decide) rfl
  refine mC_of (md := md_X9_rankBy) rfl (lt_at (by decide)) rfl ?_
  refine mGo_run (n := 400) ok rfl ?_
  refine mGo_callV ok rfl (by omega) (m_stand (d := d) hs hl hi) (fun τ1 hτ1 => ?_)
  have t1 : frL σ τ1 := by rw [hτ1]; exact frL_now _ _
  have q1 : mQ τ1 (at0 P i).1 (at0 P i).2 := by rw [hτ1]; exact ⟨by simp [WL_at], by simp [WL_at]⟩
  clear hτ1
  refine mGo_run (n := 400) ok rfl ?_
  refine mGo_callR ok rfl (by omega) (m_find1 (d := d) hf (t1.mF hm) q1 hq) (fun τ2 hτ2 => ?_)
  have t2 : frL σ τ2 := by rw [hτ2]; exact t1.trans (frL_mv _ _)
  have v2 : mV τ2 q := by rw [hτ2]; exact mV_mk q
  clear hτ2
  refine mGo_run (n := 400) ok rfl ?_
  refine mGo_callP ok rfl (by omega) (m_countReplies (d := d) hf (t2.mF hm) v2 ho) ?_
  refine mGo_runS 22 (n := 400) ok rfl ?_
  have loop : ∀ m r, r + m = rpN F q → ∀ (τ : mHp) (a : Nat) (L6 : Option Value), a ≤ 400 → frL σ τ → mV τ q → mGo g l (d + 2) md_X9_rankBy (SH lk ex).length (mTot (SH lk ex)) (22, [some (.ref 48), some (.int (nI i)), some (.int (nI k)), some (.int (nI (rpN F q))), some (.int (nI a)), some (.int (nI r)), L6], [], SH lk ex, τ) (fun r1 sp σ1 => r1 = some (.int (nI (rbA a (((List.range' r m).map (fun r => rpP F man (at0 P i).1 (at0 P i).2 q r)).map (fun x => R (ix P x)))))) ∧ sp = SH lk ex ∧ frL σ σ1) := by
    intro m
    induction m with
    | zero =>
      intro r hr τ a L6 ha t v
      refine mGo_run (n := 400) ok rfl ?_
      refine mGo_ifI ok rfl (nI_leI (a := rpN F q) (b := r) (by omega) (by omega)) (fun h => ?_) (fun h => ?_)
      · refine mGo_run (n := 400) ok rfl ?_
        rw [nI_1]
        exact mGo_ret ok rfl trivial (⟨rfl, rfl, t⟩)
      · omega
    | succ m ih =>
      intro r hr τ a L6 ha t v
      have hx : rpP F man (at0 P i).1 (at0 P i).2 q r ∈ P := hc q hmem _ (List.mem_map.mpr ⟨r, List.mem_range.mpr (by omega), rfl⟩)
      have hxl := ix_lt hx
      have hRx := hR _ hxl
      refine mGo_run (n := 400) ok rfl ?_
      refine mGo_ifI ok rfl (nI_leI (a := rpN F q) (b := r) (by omega) (by omega)) (fun h => ?_) (fun h => ?_)
      · omega
      · refine mGo_run (n := 400) ok rfl ?_
        refine mGo_callV ok rfl (by omega) (m_stand (d := d) (sM_L t.1 t.2 hs) hl hi) (fun τ3 hτ3 => ?_)
        have t3 : frL σ τ3 := by rw [hτ3]; exact t.trans (frL_now _ _)
        have q3 : mQ τ3 (at0 P i).1 (at0 P i).2 := by rw [hτ3]; exact ⟨by simp [WL_at], by simp [WL_at]⟩
        have v3 : mV τ3 q := by rw [hτ3]; exact v
        clear hτ3
        refine mGo_run (n := 400) ok rfl ?_
        refine mGo_callV ok rfl (by omega) (m_reply (d := d) hf (t3.mF hm) q3 (by rw [(t3.2 17 (by decide)).1]; exact hman) hm1 v3 ho (r := r) (by omega)) (fun τ4 hτ4 => ?_)
        have t4 : frL σ τ4 := t3.trans ⟨hτ4.1, hτ4.2.1.wide (by decide)⟩
        have v4 : mV τ4 q := ⟨by rw [(hτ4.2.1 18 (by decide)).1]; exact v3.1, by rw [(hτ4.2.1 19 (by decide)).1]; exact v3.2⟩
        have s4 := sM_L t4.1 t4.2 hs
        have r4 := (s4.2 _ _ (ix_at hx)).2.2
        refine mGo_run (n := 400) ok rfl ?_
        rw [hτ4.2.2.1, hτ4.2.2.2]
        refine mGo_callP ok rfl (by omega) (m_placeOf (d := d) s4 hn hl (rpP F man (at0 P i).1 (at0 P i).2 q r)) ?_
        rw [if_pos hx]
        refine mGo_side ok rfl (nI_in (by omega) (by omega)) ?_
        rw [nI_clamp (n := ix P (rpP F man (at0 P i).1 (at0 P i).2 q r)) (by omega), r4]
        refine mGo_run (n := 400) ok rfl ?_
        show mGo _ _ _ _ _ _ _ (fun r1 sp σ1 => r1 = some (.int (nI (if R (ix P (rpP F man (at0 P i).1 (at0 P i).2 q r)) = 0 then 0 else rbA (if a < R (ix P (rpP F man (at0 P i).1 (at0 P i).2 q r)) then R (ix P (rpP F man (at0 P i).1 (at0 P i).2 q r)) else a) (((List.range' (r + 1) m).map (fun r => rpP F man (at0 P i).1 (at0 P i).2 q r)).map (fun x => R (ix P x)))))) ∧ sp = SH lk ex ∧ frL σ σ1)
        refine mGo_ifI ok rfl (nI_eq (a := R (ix P (rpP F man (at0 P i).1 (at0 P i).2 q r))) (b := 0) (by omega) (by omega)) (fun h1 => ?_) (fun h1 => ?_)
        · rw [if_pos h1]
          refine mGo_run (n := 400) ok rfl ?_
          exact mGo_ret ok rfl trivial (⟨rfl, rfl, t4⟩)
        · rw [if_neg h1]
          refine mGo_run (n := 400) ok rfl ?_
          refine mGo_callP ok rfl (by omega) (c_max (d := d) (nI a) (nI (R (ix P (rpP F man (at0 P i).1 (at0 P i).2 q r))))) ?_
          rw [nI_max (by omega) (by omega)]
          refine mGo_runS 22 (n := 400) ok rfl ?_
          rw [nI_1]
          exact ih (r + 1) (by omega) τ4 _ _ (by split <;> omega) t4 v4
  have := loop (rpN F q) 0 (by omega) τ2 0 none (by omega) t2 v2
  rw [← range_r] at this
  exact this
/-- during a round: the ranks of the first i are new -/
def mid (F : aF) (man : Nat) (P : List aP) (L i : Nat) (j : Nat) : Nat := if j < i then rk F man P (L + 1) j else rk F man P L j
theorem mid_le {L i j : Nat} : mid F man P L i j ≤ L + 1 := by
  unfold mid
  split
  · exact rk_le _ _
  · have := rk_le (F := F) (man := man) (P := P) L j; omega
theorem mid_iff {L i j x : Nat} (hx : x ≤ L) (h1 : 1 ≤ x) : mid F man P L i j = x ↔ rk F man P L j = x := by
  unfold mid
  by_cases z : j < i
  · rw [if_pos z]
    simp only [rk]
    have := rk_le (F := F) (man := man) (P := P) L j
    by_cases y : rk F man P L j = 0 ∧ winB F man P (rk F man P L) (L + 1) j = true
    · rw [if_pos y]; omega
    · rw [if_neg y]
  · rw [if_neg z]
/-- a move gives the rank L + 1 just if all its replies are below -/
theorem rb_win {L i : Nat} {p : aP} {q : Nat × Nat} (h0 : rk F man P L i = 0) (hp : p = at0 P i) (hq : q ∈ mvs F p.1 p.2) : rbA 0 ((rps F man p q).map (fun x => mid F man P L i (ix P x))) = L + 1 ↔ (rps F man p q).all (fun x => decide (1 ≤ rk F man P L (ix P x) ∧ rk F man P L (ix P x) < L + 1)) = true := by
  subst hp
  have key : ∀ j, (1 ≤ mid F man P L i j ∧ mid F man P L i j ≤ L) ↔ (1 ≤ rk F man P L j ∧ rk F man P L j < L + 1) := by
    intro j
    constructor
    · rintro ⟨h1, h2⟩
      have := (mid_iff (F := F) (man := man) (P := P) (i := i) (j := j) h2 h1).mp rfl
      omega
    · rintro ⟨h1, h2⟩
      have := (mid_iff (F := F) (man := man) (P := P) (i := i) (j := j) (x := rk F man P L j) (by omega) h1).mpr rfl
      omega
  rw [rbA_iff, List.all_eq_true]
  constructor
  · rintro ⟨h1, h2, h3⟩ x hx
    have := h2 _ (List.mem_map.mpr ⟨x, hx, rfl⟩)
    exact decide_eq_true ((key _).mp this)
  · intro h
    refine ⟨Nat.zero_le _, fun y hy => ?_, ?_⟩
    · obtain ⟨x, hx, rfl⟩ := List.mem_map.mp hy
      exact (key _).mpr (of_decide_eq_true (h x hx))
    · cases L with
      | zero => exact Or.inl rfl
      | succ L =>
        right
        apply Classical.byContradiction
        intro hno
        have hw : winB F man P (rk F man P (L + 1)) (L + 1) i = true := by
          unfold winB
          rw [List.any_eq_true]
          refine ⟨q, hq, List.all_eq_true.mpr (fun x hx => ?_)⟩
          have h1 := of_decide_eq_true (h x hx)
          refine decide_eq_true ⟨h1.1, ?_⟩
          have h2 : rk F man P (L + 1) (ix P x) ≠ L + 1 := fun z => hno (List.mem_map.mpr ⟨x, hx, (mid_iff (by omega) (by omega)).mpr z⟩)
          omega
        rw [rk_not h0] at hw
        cases hw
end T
end
