section
-- ===== PART A: goes FIRST, ahead of the names: the tables' words, and 'selects' of the private methods out of them =====
/-- a private method of a class that the tables say can be made, by its rows of tables_1 -/
def lw_okq (q : MethodName × Nat) : Prop := (q.1.cls ≠ "java/lang/invoke/MethodHandle" ∧ q.1.cls ≠ "java/lang/invoke/VarHandle") ∧ Cond.instantiable q.1.cls q.2 ∈ tables_1 ∧ Cond.privateMethod q.1 ∈ tables_1 ∧ Cond.instanceMethod q.1 ∈ tables_1
theorem lw_p0 : lw_okq (⟨"BowingRow$InForce", "setWithout", "()V"⟩, 7) := ⟨⟨by decide +kernel, by decide +kernel⟩, List.mem_of_getElem? (i := 135) (by decide +kernel), List.mem_of_getElem? (i := 141) (by decide +kernel), List.mem_of_getElem? (i := 142) (by decide +kernel)⟩
theorem lw_p1 : lw_okq (⟨"BowingRow", "putOnTape", "(I)V"⟩, 18) := ⟨⟨by decide +kernel, by decide +kernel⟩, List.mem_of_getElem? (i := 31) (by decide +kernel), List.mem_of_getElem? (i := 452) (by decide +kernel), List.mem_of_getElem? (i := 453) (by decide +kernel)⟩
theorem lw_p2 : lw_okq (⟨"BowingRow", "dayAsItIs", "()LBowingRow$Day;"⟩, 18) := ⟨⟨by decide +kernel, by decide +kernel⟩, List.mem_of_getElem? (i := 31) (by decide +kernel), List.mem_of_getElem? (i := 468) (by decide +kernel), List.mem_of_getElem? (i := 469) (by decide +kernel)⟩
theorem lw_p3 : lw_okq (⟨"BowingRow$Day", "openCall", "(LBowingRow$Call;)Z"⟩, 17) := ⟨⟨by decide +kernel, by decide +kernel⟩, List.mem_of_getElem? (i := 172) (by decide +kernel), List.mem_of_getElem? (i := 485) (by decide +kernel), List.mem_of_getElem? (i := 486) (by decide +kernel)⟩
theorem lw_p4 : lw_okq (⟨"BowingRow$Day", "handAlong", "(LBowingRow$Call;)V"⟩, 17) := ⟨⟨by decide +kernel, by decide +kernel⟩, List.mem_of_getElem? (i := 172) (by decide +kernel), List.mem_of_getElem? (i := 508) (by decide +kernel), List.mem_of_getElem? (i := 509) (by decide +kernel)⟩
theorem lw_p5 : lw_okq (⟨"BowingRow$Day", "offersPlace", "(LBowingRow$Call;II)Z"⟩, 17) := ⟨⟨by decide +kernel, by decide +kernel⟩, List.mem_of_getElem? (i := 172) (by decide +kernel), List.mem_of_getElem? (i := 512) (by decide +kernel), List.mem_of_getElem? (i := 513) (by decide +kernel)⟩
theorem lw_p6 : lw_okq (⟨"BowingRow$Day", "offersByPlan", "()Z"⟩, 17) := ⟨⟨by decide +kernel, by decide +kernel⟩, List.mem_of_getElem? (i := 172) (by decide +kernel), List.mem_of_getElem? (i := 528) (by decide +kernel), List.mem_of_getElem? (i := 529) (by decide +kernel)⟩
theorem lw_p7 : lw_okq (⟨"BowingRow$Day", "offersByWay", "(II)Z"⟩, 17) := ⟨⟨by decide +kernel, by decide +kernel⟩, List.mem_of_getElem? (i := 172) (by decide +kernel), List.mem_of_getElem? (i := 532) (by decide +kernel), List.mem_of_getElem? (i := 533) (by decide +kernel)⟩
theorem lw_p8 : lw_okq (⟨"BowingRow$Day", "endCall", "(LBowingRow$Call;)V"⟩, 17) := ⟨⟨by decide +kernel, by decide +kernel⟩, List.mem_of_getElem? (i := 172) (by decide +kernel), List.mem_of_getElem? (i := 536) (by decide +kernel), List.mem_of_getElem? (i := 537) (by decide +kernel)⟩
theorem lw_p9 : lw_okq (⟨"BowingRow$Day", "letPass", "(LBowingRow$Call;)V"⟩, 17) := ⟨⟨by decide +kernel, by decide +kernel⟩, List.mem_of_getElem? (i := 172) (by decide +kernel), List.mem_of_getElem? (i := 540) (by decide +kernel), List.mem_of_getElem? (i := 541) (by decide +kernel)⟩
theorem lw_p10 : lw_okq (⟨"BowingRow", "untilsChanged", "()V"⟩, 18) := ⟨⟨by decide +kernel, by decide +kernel⟩, List.mem_of_getElem? (i := 31) (by decide +kernel), List.mem_of_getElem? (i := 605) (by decide +kernel), List.mem_of_getElem? (i := 606) (by decide +kernel)⟩
theorem lw_p11 : lw_okq (⟨"BowingRow", "waysChanged", "()V"⟩, 18) := ⟨⟨by decide +kernel, by decide +kernel⟩, List.mem_of_getElem? (i := 31) (by decide +kernel), List.mem_of_getElem? (i := 609) (by decide +kernel), List.mem_of_getElem? (i := 610) (by decide +kernel)⟩
theorem lw_p12 : lw_okq (⟨"BowingRow", "takeText", "(I)V"⟩, 18) := ⟨⟨by decide +kernel, by decide +kernel⟩, List.mem_of_getElem? (i := 31) (by decide +kernel), List.mem_of_getElem? (i := 625) (by decide +kernel), List.mem_of_getElem? (i := 626) (by decide +kernel)⟩
theorem lw_p13 : lw_okq (⟨"BowingRow", "checkWhat", "(II)V"⟩, 18) := ⟨⟨by decide +kernel, by decide +kernel⟩, List.mem_of_getElem? (i := 31) (by decide +kernel), List.mem_of_getElem? (i := 629) (by decide +kernel), List.mem_of_getElem? (i := 630) (by decide +kernel)⟩
theorem lw_p14 : lw_okq (⟨"java/lang/Throwable", "fillInStackTrace", "(I)Ljava/lang/Throwable;"⟩, 6) := ⟨⟨by decide +kernel, by decide +kernel⟩, List.mem_of_getElem? (i := 672) (by decide +kernel), List.mem_of_getElem? (i := 670) (by decide +kernel), List.mem_of_getElem? (i := 671) (by decide +kernel)⟩
theorem lw_p15 : lw_okq (⟨"BowingRow$Tokens", "cutOne", "([BII)I"⟩, 8) := ⟨⟨by decide +kernel, by decide +kernel⟩, List.mem_of_getElem? (i := 39) (by decide +kernel), List.mem_of_getElem? (i := 705) (by decide +kernel), List.mem_of_getElem? (i := 706) (by decide +kernel)⟩
def lw_privs_1 : List (MethodName × Nat) := [(⟨"BowingRow$InForce", "setWithout", "()V"⟩, 7), (⟨"BowingRow", "putOnTape", "(I)V"⟩, 18), (⟨"BowingRow", "dayAsItIs", "()LBowingRow$Day;"⟩, 18), (⟨"BowingRow$Day", "openCall", "(LBowingRow$Call;)Z"⟩, 17), (⟨"BowingRow$Day", "handAlong", "(LBowingRow$Call;)V"⟩, 17), (⟨"BowingRow$Day", "offersPlace", "(LBowingRow$Call;II)Z"⟩, 17), (⟨"BowingRow$Day", "offersByPlan", "()Z"⟩, 17), (⟨"BowingRow$Day", "offersByWay", "(II)Z"⟩, 17), (⟨"BowingRow$Day", "endCall", "(LBowingRow$Call;)V"⟩, 17), (⟨"BowingRow$Day", "letPass", "(LBowingRow$Call;)V"⟩, 17), (⟨"BowingRow", "untilsChanged", "()V"⟩, 18), (⟨"BowingRow", "waysChanged", "()V"⟩, 18), (⟨"BowingRow", "takeText", "(I)V"⟩, 18), (⟨"BowingRow", "checkWhat", "(II)V"⟩, 18), (⟨"java/lang/Throwable", "fillInStackTrace", "(I)Ljava/lang/Throwable;"⟩, 6), (⟨"BowingRow$Tokens", "cutOne", "([BII)I"⟩, 8)]
theorem lw_r1 : ∀ q ∈ lw_privs_1, lw_okq q := List.forall_mem_cons.mpr ⟨lw_p0, List.forall_mem_cons.mpr ⟨lw_p1, List.forall_mem_cons.mpr ⟨lw_p2, List.forall_mem_cons.mpr ⟨lw_p3, List.forall_mem_cons.mpr ⟨lw_p4, List.forall_mem_cons.mpr ⟨lw_p5, List.forall_mem_cons.mpr ⟨lw_p6, List.forall_mem_cons.mpr ⟨lw_p7, List.forall_mem_cons.mpr ⟨lw_p8, List.forall_mem_cons.mpr ⟨lw_p9, List.forall_mem_cons.mpr ⟨lw_p10, List.forall_mem_cons.mpr ⟨lw_p11, List.forall_mem_cons.mpr ⟨lw_p12, List.forall_mem_cons.mpr ⟨lw_p13, List.forall_mem_cons.mpr ⟨lw_p14, List.forall_mem_cons.mpr ⟨lw_p15, fun _ h => absurd h List.not_mem_nil⟩⟩⟩⟩⟩⟩⟩⟩⟩⟩⟩⟩⟩⟩⟩⟩
theorem lw_p16 : lw_okq (⟨"BowingRow$People", "readClause", "(LBowingRow$Tokens;I)Z"⟩, 3) := ⟨⟨by decide +kernel, by decide +kernel⟩, List.mem_of_getElem? (i := 76) (by decide +kernel), List.mem_of_getElem? (i := 778) (by decide +kernel), List.mem_of_getElem? (i := 779) (by decide +kernel)⟩
theorem lw_p17 : lw_okq (⟨"BowingRow$People", "readPerson", "(LBowingRow$Tokens;)Z"⟩, 3) := ⟨⟨by decide +kernel, by decide +kernel⟩, List.mem_of_getElem? (i := 76) (by decide +kernel), List.mem_of_getElem? (i := 802) (by decide +kernel), List.mem_of_getElem? (i := 803) (by decide +kernel)⟩
theorem lw_p18 : lw_okq (⟨"BowingRow$People", "readKnows", "(LBowingRow$Tokens;)Z"⟩, 3) := ⟨⟨by decide +kernel, by decide +kernel⟩, List.mem_of_getElem? (i := 76) (by decide +kernel), List.mem_of_getElem? (i := 815) (by decide +kernel), List.mem_of_getElem? (i := 816) (by decide +kernel)⟩
theorem lw_p19 : lw_okq (⟨"BowingRow$People", "readHabit", "(LBowingRow$Tokens;LBowingRow$Word;)Z"⟩, 3) := ⟨⟨by decide +kernel, by decide +kernel⟩, List.mem_of_getElem? (i := 76) (by decide +kernel), List.mem_of_getElem? (i := 823) (by decide +kernel), List.mem_of_getElem? (i := 824) (by decide +kernel)⟩
theorem lw_p20 : lw_okq (⟨"BowingRow$People", "lineUp", "()V"⟩, 3) := ⟨⟨by decide +kernel, by decide +kernel⟩, List.mem_of_getElem? (i := 76) (by decide +kernel), List.mem_of_getElem? (i := 831) (by decide +kernel), List.mem_of_getElem? (i := 832) (by decide +kernel)⟩
theorem lw_p21 : lw_okq (⟨"BowingRow", "textChanged", "()V"⟩, 18) := ⟨⟨by decide +kernel, by decide +kernel⟩, List.mem_of_getElem? (i := 31) (by decide +kernel), List.mem_of_getElem? (i := 835) (by decide +kernel), List.mem_of_getElem? (i := 836) (by decide +kernel)⟩
theorem lw_p22 : lw_okq (⟨"BowingRow$Law", "readRule", "(LBowingRow$Tokens;)Z"⟩, 8) := ⟨⟨by decide +kernel, by decide +kernel⟩, List.mem_of_getElem? (i := 99) (by decide +kernel), List.mem_of_getElem? (i := 856) (by decide +kernel), List.mem_of_getElem? (i := 857) (by decide +kernel)⟩
theorem lw_p23 : lw_okq (⟨"BowingRow$Law", "readJoined", "(LBowingRow$Tokens;LBowingRow$Word;I)Z"⟩, 8) := ⟨⟨by decide +kernel, by decide +kernel⟩, List.mem_of_getElem? (i := 99) (by decide +kernel), List.mem_of_getElem? (i := 867) (by decide +kernel), List.mem_of_getElem? (i := 868) (by decide +kernel)⟩
theorem lw_p24 : lw_okq (⟨"BowingRow$Law", "readClaim", "(LBowingRow$Tokens;I)Z"⟩, 8) := ⟨⟨by decide +kernel, by decide +kernel⟩, List.mem_of_getElem? (i := 99) (by decide +kernel), List.mem_of_getElem? (i := 873) (by decide +kernel), List.mem_of_getElem? (i := 874) (by decide +kernel)⟩
theorem lw_p25 : lw_okq (⟨"BowingRow$Law", "addStep", "(I)V"⟩, 8) := ⟨⟨by decide +kernel, by decide +kernel⟩, List.mem_of_getElem? (i := 99) (by decide +kernel), List.mem_of_getElem? (i := 883) (by decide +kernel), List.mem_of_getElem? (i := 884) (by decide +kernel)⟩
theorem lw_p26 : lw_okq (⟨"BowingRow$Law", "readSum", "(LBowingRow$Tokens;CCI)Z"⟩, 8) := ⟨⟨by decide +kernel, by decide +kernel⟩, List.mem_of_getElem? (i := 99) (by decide +kernel), List.mem_of_getElem? (i := 888) (by decide +kernel), List.mem_of_getElem? (i := 889) (by decide +kernel)⟩
theorem lw_p27 : lw_okq (⟨"BowingRow$Law", "readOperand", "(LBowingRow$Tokens;I)Z"⟩, 8) := ⟨⟨by decide +kernel, by decide +kernel⟩, List.mem_of_getElem? (i := 99) (by decide +kernel), List.mem_of_getElem? (i := 892) (by decide +kernel), List.mem_of_getElem? (i := 893) (by decide +kernel)⟩
theorem lw_p28 : lw_okq (⟨"BowingRow", "checkPerson", "(I)V"⟩, 18) := ⟨⟨by decide +kernel, by decide +kernel⟩, List.mem_of_getElem? (i := 31) (by decide +kernel), List.mem_of_getElem? (i := 917) (by decide +kernel), List.mem_of_getElem? (i := 918) (by decide +kernel)⟩
theorem lw_p29 : lw_okq (⟨"BowingRow", "checkPair", "(III)V"⟩, 18) := ⟨⟨by decide +kernel, by decide +kernel⟩, List.mem_of_getElem? (i := 31) (by decide +kernel), List.mem_of_getElem? (i := 960) (by decide +kernel), List.mem_of_getElem? (i := 961) (by decide +kernel)⟩
theorem lw_p30 : lw_okq (⟨"BowingRow$PassBook", "setOffRound", "()Z"⟩, 7) := ⟨⟨by decide +kernel, by decide +kernel⟩, List.mem_of_getElem? (i := 180) (by decide +kernel), List.mem_of_getElem? (i := 1067) (by decide +kernel), List.mem_of_getElem? (i := 1068) (by decide +kernel)⟩
theorem lw_p31 : lw_okq (⟨"BowingRow$PassBook", "setOff", "(III)Z"⟩, 7) := ⟨⟨by decide +kernel, by decide +kernel⟩, List.mem_of_getElem? (i := 180) (by decide +kernel), List.mem_of_getElem? (i := 1071) (by decide +kernel), List.mem_of_getElem? (i := 1072) (by decide +kernel)⟩
def lw_privs_2 : List (MethodName × Nat) := [(⟨"BowingRow$People", "readClause", "(LBowingRow$Tokens;I)Z"⟩, 3), (⟨"BowingRow$People", "readPerson", "(LBowingRow$Tokens;)Z"⟩, 3), (⟨"BowingRow$People", "readKnows", "(LBowingRow$Tokens;)Z"⟩, 3), (⟨"BowingRow$People", "readHabit", "(LBowingRow$Tokens;LBowingRow$Word;)Z"⟩, 3), (⟨"BowingRow$People", "lineUp", "()V"⟩, 3), (⟨"BowingRow", "textChanged", "()V"⟩, 18), (⟨"BowingRow$Law", "readRule", "(LBowingRow$Tokens;)Z"⟩, 8), (⟨"BowingRow$Law", "readJoined", "(LBowingRow$Tokens;LBowingRow$Word;I)Z"⟩, 8), (⟨"BowingRow$Law", "readClaim", "(LBowingRow$Tokens;I)Z"⟩, 8), (⟨"BowingRow$Law", "addStep", "(I)V"⟩, 8), (⟨"BowingRow$Law", "readSum", "(LBowingRow$Tokens;CCI)Z"⟩, 8), (⟨"BowingRow$Law", "readOperand", "(LBowingRow$Tokens;I)Z"⟩, 8), (⟨"BowingRow", "checkPerson", "(I)V"⟩, 18), (⟨"BowingRow", "checkPair", "(III)V"⟩, 18), (⟨"BowingRow$PassBook", "setOffRound", "()Z"⟩, 7), (⟨"BowingRow$PassBook", "setOff", "(III)Z"⟩, 7)]
theorem lw_r2 : ∀ q ∈ lw_privs_2, lw_okq q := List.forall_mem_cons.mpr ⟨lw_p16, List.forall_mem_cons.mpr ⟨lw_p17, List.forall_mem_cons.mpr ⟨lw_p18, List.forall_mem_cons.mpr ⟨lw_p19, List.forall_mem_cons.mpr ⟨lw_p20, List.forall_mem_cons.mpr ⟨lw_p21, List.forall_mem_cons.mpr ⟨lw_p22, List.forall_mem_cons.mpr ⟨lw_p23, List.forall_mem_cons.mpr ⟨lw_p24, List.forall_mem_cons.mpr ⟨lw_p25, List.forall_mem_cons.mpr ⟨lw_p26, List.forall_mem_cons.mpr ⟨lw_p27, List.forall_mem_cons.mpr ⟨lw_p28, List.forall_mem_cons.mpr ⟨lw_p29, List.forall_mem_cons.mpr ⟨lw_p30, List.forall_mem_cons.mpr ⟨lw_p31, fun _ h => absurd h List.not_mem_nil⟩⟩⟩⟩⟩⟩⟩⟩⟩⟩⟩⟩⟩⟩⟩⟩
theorem lw_p32 : lw_okq (⟨"BowingRow", "endTurning", "(III)I"⟩, 18) := ⟨⟨by decide +kernel, by decide +kernel⟩, List.mem_of_getElem? (i := 31) (by decide +kernel), List.mem_of_getElem? (i := 1090) (by decide +kernel), List.mem_of_getElem? (i := 1091) (by decide +kernel)⟩
theorem lw_p33 : lw_okq (⟨"BowingRow", "endPlanning", "(II)I"⟩, 18) := ⟨⟨by decide +kernel, by decide +kernel⟩, List.mem_of_getElem? (i := 31) (by decide +kernel), List.mem_of_getElem? (i := 1101) (by decide +kernel), List.mem_of_getElem? (i := 1102) (by decide +kernel)⟩
theorem lw_p34 : lw_okq (⟨"BowingRow", "checkFewEnough", "()V"⟩, 18) := ⟨⟨by decide +kernel, by decide +kernel⟩, List.mem_of_getElem? (i := 31) (by decide +kernel), List.mem_of_getElem? (i := 1130) (by decide +kernel), List.mem_of_getElem? (i := 1131) (by decide +kernel)⟩
theorem lw_p35 : lw_okq (⟨"BowingRow$WayRows", "keepEnds", "([III)V"⟩, 6) := ⟨⟨by decide +kernel, by decide +kernel⟩, List.mem_of_getElem? (i := 324) (by decide +kernel), List.mem_of_getElem? (i := 1159) (by decide +kernel), List.mem_of_getElem? (i := 1160) (by decide +kernel)⟩
theorem lw_p36 : lw_okq (⟨"BowingRow$WayRows", "findRests", "(II)V"⟩, 6) := ⟨⟨by decide +kernel, by decide +kernel⟩, List.mem_of_getElem? (i := 324) (by decide +kernel), List.mem_of_getElem? (i := 1164) (by decide +kernel), List.mem_of_getElem? (i := 1165) (by decide +kernel)⟩
theorem lw_p37 : lw_okq (⟨"BowingRow$WayRows", "isRest", "(II)Z"⟩, 6) := ⟨⟨by decide +kernel, by decide +kernel⟩, List.mem_of_getElem? (i := 324) (by decide +kernel), List.mem_of_getElem? (i := 1168) (by decide +kernel), List.mem_of_getElem? (i := 1169) (by decide +kernel)⟩
theorem lw_p38 : lw_okq (⟨"BowingRowModel", "bad", "(ZI)Z"⟩, 60) := ⟨⟨by decide +kernel, by decide +kernel⟩, List.mem_of_getElem? (i := 1186) (by decide +kernel), List.mem_of_getElem? (i := 1390) (by decide +kernel), List.mem_of_getElem? (i := 1391) (by decide +kernel)⟩
theorem lw_p39 : lw_okq (⟨"BowingRowModel", "starts", "(I)V"⟩, 60) := ⟨⟨by decide +kernel, by decide +kernel⟩, List.mem_of_getElem? (i := 1186) (by decide +kernel), List.mem_of_getElem? (i := 1394) (by decide +kernel), List.mem_of_getElem? (i := 1395) (by decide +kernel)⟩
theorem lw_p40 : lw_okq (⟨"BowingRowModel", "blanks", "()V"⟩, 60) := ⟨⟨by decide +kernel, by decide +kernel⟩, List.mem_of_getElem? (i := 1186) (by decide +kernel), List.mem_of_getElem? (i := 1398) (by decide +kernel), List.mem_of_getElem? (i := 1399) (by decide +kernel)⟩
theorem lw_p41 : lw_okq (⟨"BowingRowModel", "byteAt", "(I)I"⟩, 60) := ⟨⟨by decide +kernel, by decide +kernel⟩, List.mem_of_getElem? (i := 1186) (by decide +kernel), List.mem_of_getElem? (i := 1402) (by decide +kernel), List.mem_of_getElem? (i := 1403) (by decide +kernel)⟩
theorem lw_p42 : lw_okq (⟨"BowingRowModel", "clause", "()V"⟩, 60) := ⟨⟨by decide +kernel, by decide +kernel⟩, List.mem_of_getElem? (i := 1186) (by decide +kernel), List.mem_of_getElem? (i := 1406) (by decide +kernel), List.mem_of_getElem? (i := 1407) (by decide +kernel)⟩
theorem lw_p43 : lw_okq (⟨"BowingRowModel", "isWord", "(J)Z"⟩, 60) := ⟨⟨by decide +kernel, by decide +kernel⟩, List.mem_of_getElem? (i := 1186) (by decide +kernel), List.mem_of_getElem? (i := 1415) (by decide +kernel), List.mem_of_getElem? (i := 1416) (by decide +kernel)⟩
theorem lw_p44 : lw_okq (⟨"BowingRowModel", "wordHere", "()J"⟩, 60) := ⟨⟨by decide +kernel, by decide +kernel⟩, List.mem_of_getElem? (i := 1186) (by decide +kernel), List.mem_of_getElem? (i := 1419) (by decide +kernel), List.mem_of_getElem? (i := 1420) (by decide +kernel)⟩
theorem lw_p45 : lw_okq (⟨"BowingRowModel", "wrong", "(II)V"⟩, 60) := ⟨⟨by decide +kernel, by decide +kernel⟩, List.mem_of_getElem? (i := 1186) (by decide +kernel), List.mem_of_getElem? (i := 1425) (by decide +kernel), List.mem_of_getElem? (i := 1426) (by decide +kernel)⟩
theorem lw_p46 : lw_okq (⟨"BowingRowModel", "skipWord", "()V"⟩, 60) := ⟨⟨by decide +kernel, by decide +kernel⟩, List.mem_of_getElem? (i := 1186) (by decide +kernel), List.mem_of_getElem? (i := 1429) (by decide +kernel), List.mem_of_getElem? (i := 1430) (by decide +kernel)⟩
theorem lw_p47 : lw_okq (⟨"BowingRowModel", "readsPerson", "()V"⟩, 60) := ⟨⟨by decide +kernel, by decide +kernel⟩, List.mem_of_getElem? (i := 1186) (by decide +kernel), List.mem_of_getElem? (i := 1433) (by decide +kernel), List.mem_of_getElem? (i := 1434) (by decide +kernel)⟩
def lw_privs_3 : List (MethodName × Nat) := [(⟨"BowingRow", "endTurning", "(III)I"⟩, 18), (⟨"BowingRow", "endPlanning", "(II)I"⟩, 18), (⟨"BowingRow", "checkFewEnough", "()V"⟩, 18), (⟨"BowingRow$WayRows", "keepEnds", "([III)V"⟩, 6), (⟨"BowingRow$WayRows", "findRests", "(II)V"⟩, 6), (⟨"BowingRow$WayRows", "isRest", "(II)Z"⟩, 6), (⟨"BowingRowModel", "bad", "(ZI)Z"⟩, 60), (⟨"BowingRowModel", "starts", "(I)V"⟩, 60), (⟨"BowingRowModel", "blanks", "()V"⟩, 60), (⟨"BowingRowModel", "byteAt", "(I)I"⟩, 60), (⟨"BowingRowModel", "clause", "()V"⟩, 60), (⟨"BowingRowModel", "isWord", "(J)Z"⟩, 60), (⟨"BowingRowModel", "wordHere", "()J"⟩, 60), (⟨"BowingRowModel", "wrong", "(II)V"⟩, 60), (⟨"BowingRowModel", "skipWord", "()V"⟩, 60), (⟨"BowingRowModel", "readsPerson", "()V"⟩, 60)]
theorem lw_r3 : ∀ q ∈ lw_privs_3, lw_okq q := List.forall_mem_cons.mpr ⟨lw_p32, List.forall_mem_cons.mpr ⟨lw_p33, List.forall_mem_cons.mpr ⟨lw_p34, List.forall_mem_cons.mpr ⟨lw_p35, List.forall_mem_cons.mpr ⟨lw_p36, List.forall_mem_cons.mpr ⟨lw_p37, List.forall_mem_cons.mpr ⟨lw_p38, List.forall_mem_cons.mpr ⟨lw_p39, List.forall_mem_cons.mpr ⟨lw_p40, List.forall_mem_cons.mpr ⟨lw_p41, List.forall_mem_cons.mpr ⟨lw_p42, List.forall_mem_cons.mpr ⟨lw_p43, List.forall_mem_cons.mpr ⟨lw_p44, List.forall_mem_cons.mpr ⟨lw_p45, List.forall_mem_cons.mpr ⟨lw_p46, List.forall_mem_cons.mpr ⟨lw_p47, fun _ h => absurd h List.not_mem_nil⟩⟩⟩⟩⟩⟩⟩⟩⟩⟩⟩⟩⟩⟩⟩⟩
theorem lw_p48 : lw_okq (⟨"BowingRowModel", "numberHere", "(III)I"⟩, 60) := ⟨⟨by decide +kernel, by decide +kernel⟩, List.mem_of_getElem? (i := 1186) (by decide +kernel), List.mem_of_getElem? (i := 1437) (by decide +kernel), List.mem_of_getElem? (i := 1438) (by decide +kernel)⟩
theorem lw_p49 : lw_okq (⟨"BowingRowModel", "sign", "(I)V"⟩, 60) := ⟨⟨by decide +kernel, by decide +kernel⟩, List.mem_of_getElem? (i := 1186) (by decide +kernel), List.mem_of_getElem? (i := 1445) (by decide +kernel), List.mem_of_getElem? (i := 1446) (by decide +kernel)⟩
theorem lw_p50 : lw_okq (⟨"BowingRowModel", "rule", "()V"⟩, 60) := ⟨⟨by decide +kernel, by decide +kernel⟩, List.mem_of_getElem? (i := 1186) (by decide +kernel), List.mem_of_getElem? (i := 1453) (by decide +kernel), List.mem_of_getElem? (i := 1454) (by decide +kernel)⟩
theorem lw_p51 : lw_okq (⟨"BowingRowModel", "ruleHere", "()I"⟩, 60) := ⟨⟨by decide +kernel, by decide +kernel⟩, List.mem_of_getElem? (i := 1186) (by decide +kernel), List.mem_of_getElem? (i := 1457) (by decide +kernel), List.mem_of_getElem? (i := 1458) (by decide +kernel)⟩
theorem lw_p52 : lw_okq (⟨"BowingRowModel", "sum", "()V"⟩, 60) := ⟨⟨by decide +kernel, by decide +kernel⟩, List.mem_of_getElem? (i := 1186) (by decide +kernel), List.mem_of_getElem? (i := 1461) (by decide +kernel), List.mem_of_getElem? (i := 1462) (by decide +kernel)⟩
theorem lw_p53 : lw_okq (⟨"BowingRowModel", "product", "()V"⟩, 60) := ⟨⟨by decide +kernel, by decide +kernel⟩, List.mem_of_getElem? (i := 1186) (by decide +kernel), List.mem_of_getElem? (i := 1465) (by decide +kernel), List.mem_of_getElem? (i := 1466) (by decide +kernel)⟩
theorem lw_p54 : lw_okq (⟨"BowingRowModel", "unit", "()V"⟩, 60) := ⟨⟨by decide +kernel, by decide +kernel⟩, List.mem_of_getElem? (i := 1186) (by decide +kernel), List.mem_of_getElem? (i := 1469) (by decide +kernel), List.mem_of_getElem? (i := 1470) (by decide +kernel)⟩
theorem lw_p55 : lw_okq (⟨"BowingRowModel", "signHere", "()I"⟩, 60) := ⟨⟨by decide +kernel, by decide +kernel⟩, List.mem_of_getElem? (i := 1186) (by decide +kernel), List.mem_of_getElem? (i := 1473) (by decide +kernel), List.mem_of_getElem? (i := 1474) (by decide +kernel)⟩
theorem lw_p56 : lw_okq (⟨"BowingRowModel", "nameHere", "()I"⟩, 60) := ⟨⟨by decide +kernel, by decide +kernel⟩, List.mem_of_getElem? (i := 1186) (by decide +kernel), List.mem_of_getElem? (i := 1477) (by decide +kernel), List.mem_of_getElem? (i := 1478) (by decide +kernel)⟩
theorem lw_p57 : lw_okq (⟨"BowingRowModel", "tells", "(I)V"⟩, 60) := ⟨⟨by decide +kernel, by decide +kernel⟩, List.mem_of_getElem? (i := 1186) (by decide +kernel), List.mem_of_getElem? (i := 1484) (by decide +kernel), List.mem_of_getElem? (i := 1485) (by decide +kernel)⟩
theorem lw_p58 : lw_okq (⟨"BowingRowModel", "opens", "(I)V"⟩, 60) := ⟨⟨by decide +kernel, by decide +kernel⟩, List.mem_of_getElem? (i := 1186) (by decide +kernel), List.mem_of_getElem? (i := 1488) (by decide +kernel), List.mem_of_getElem? (i := 1489) (by decide +kernel)⟩
theorem lw_p59 : lw_okq (⟨"BowingRowModel", "ors", "()V"⟩, 60) := ⟨⟨by decide +kernel, by decide +kernel⟩, List.mem_of_getElem? (i := 1186) (by decide +kernel), List.mem_of_getElem? (i := 1492) (by decide +kernel), List.mem_of_getElem? (i := 1493) (by decide +kernel)⟩
theorem lw_p60 : lw_okq (⟨"BowingRowModel", "ands", "()V"⟩, 60) := ⟨⟨by decide +kernel, by decide +kernel⟩, List.mem_of_getElem? (i := 1186) (by decide +kernel), List.mem_of_getElem? (i := 1496) (by decide +kernel), List.mem_of_getElem? (i := 1497) (by decide +kernel)⟩
theorem lw_p61 : lw_okq (⟨"BowingRowModel", "asked", "()V"⟩, 60) := ⟨⟨by decide +kernel, by decide +kernel⟩, List.mem_of_getElem? (i := 1186) (by decide +kernel), List.mem_of_getElem? (i := 1500) (by decide +kernel), List.mem_of_getElem? (i := 1501) (by decide +kernel)⟩
theorem lw_p62 : lw_okq (⟨"BowingRowModel", "eats", "(J)Z"⟩, 60) := ⟨⟨by decide +kernel, by decide +kernel⟩, List.mem_of_getElem? (i := 1186) (by decide +kernel), List.mem_of_getElem? (i := 1504) (by decide +kernel), List.mem_of_getElem? (i := 1505) (by decide +kernel)⟩
theorem lw_p63 : lw_okq (⟨"BowingRowModel", "layRules", "()V"⟩, 60) := ⟨⟨by decide +kernel, by decide +kernel⟩, List.mem_of_getElem? (i := 1186) (by decide +kernel), List.mem_of_getElem? (i := 1517) (by decide +kernel), List.mem_of_getElem? (i := 1518) (by decide +kernel)⟩
def lw_privs_4 : List (MethodName × Nat) := [(⟨"BowingRowModel", "numberHere", "(III)I"⟩, 60), (⟨"BowingRowModel", "sign", "(I)V"⟩, 60), (⟨"BowingRowModel", "rule", "()V"⟩, 60), (⟨"BowingRowModel", "ruleHere", "()I"⟩, 60), (⟨"BowingRowModel", "sum", "()V"⟩, 60), (⟨"BowingRowModel", "product", "()V"⟩, 60), (⟨"BowingRowModel", "unit", "()V"⟩, 60), (⟨"BowingRowModel", "signHere", "()I"⟩, 60), (⟨"BowingRowModel", "nameHere", "()I"⟩, 60), (⟨"BowingRowModel", "tells", "(I)V"⟩, 60), (⟨"BowingRowModel", "opens", "(I)V"⟩, 60), (⟨"BowingRowModel", "ors", "()V"⟩, 60), (⟨"BowingRowModel", "ands", "()V"⟩, 60), (⟨"BowingRowModel", "asked", "()V"⟩, 60), (⟨"BowingRowModel", "eats", "(J)Z"⟩, 60), (⟨"BowingRowModel", "layRules", "()V"⟩, 60)]
theorem lw_r4 : ∀ q ∈ lw_privs_4, lw_okq q := List.forall_mem_cons.mpr ⟨lw_p48, List.forall_mem_cons.mpr ⟨lw_p49, List.forall_mem_cons.mpr ⟨lw_p50, List.forall_mem_cons.mpr ⟨lw_p51, List.forall_mem_cons.mpr ⟨lw_p52, List.forall_mem_cons.mpr ⟨lw_p53, List.forall_mem_cons.mpr ⟨lw_p54, List.forall_mem_cons.mpr ⟨lw_p55, List.forall_mem_cons.mpr ⟨lw_p56, List.forall_mem_cons.mpr ⟨lw_p57, List.forall_mem_cons.mpr ⟨lw_p58, List.forall_mem_cons.mpr ⟨lw_p59, List.forall_mem_cons.mpr ⟨lw_p60, List.forall_mem_cons.mpr ⟨lw_p61, List.forall_mem_cons.mpr ⟨lw_p62, List.forall_mem_cons.mpr ⟨lw_p63, fun _ h => absurd h List.not_mem_nil⟩⟩⟩⟩⟩⟩⟩⟩⟩⟩⟩⟩⟩⟩⟩⟩
theorem lw_p64 : lw_okq (⟨"BowingRowModel", "numberOf", "(II)I"⟩, 60) := ⟨⟨by decide +kernel, by decide +kernel⟩, List.mem_of_getElem? (i := 1186) (by decide +kernel), List.mem_of_getElem? (i := 1521) (by decide +kernel), List.mem_of_getElem? (i := 1522) (by decide +kernel)⟩
theorem lw_p65 : lw_okq (⟨"BowingRowModel", "isPerson", "(I)Z"⟩, 60) := ⟨⟨by decide +kernel, by decide +kernel⟩, List.mem_of_getElem? (i := 1186) (by decide +kernel), List.mem_of_getElem? (i := 1529) (by decide +kernel), List.mem_of_getElem? (i := 1530) (by decide +kernel)⟩
theorem lw_p66 : lw_okq (⟨"BowingRowModel", "mustBe", "(III)Z"⟩, 60) := ⟨⟨by decide +kernel, by decide +kernel⟩, List.mem_of_getElem? (i := 1186) (by decide +kernel), List.mem_of_getElem? (i := 1545) (by decide +kernel), List.mem_of_getElem? (i := 1546) (by decide +kernel)⟩
theorem lw_p67 : lw_okq (⟨"BowingRowModel", "layNames", "(III)V"⟩, 60) := ⟨⟨by decide +kernel, by decide +kernel⟩, List.mem_of_getElem? (i := 1186) (by decide +kernel), List.mem_of_getElem? (i := 1549) (by decide +kernel), List.mem_of_getElem? (i := 1550) (by decide +kernel)⟩
theorem lw_p68 : lw_okq (⟨"BowingRowModel", "comes", "(I)I"⟩, 60) := ⟨⟨by decide +kernel, by decide +kernel⟩, List.mem_of_getElem? (i := 1186) (by decide +kernel), List.mem_of_getElem? (i := 1553) (by decide +kernel), List.mem_of_getElem? (i := 1554) (by decide +kernel)⟩
theorem lw_p69 : lw_okq (⟨"BowingRowModel", "worthOf", "(III)I"⟩, 60) := ⟨⟨by decide +kernel, by decide +kernel⟩, List.mem_of_getElem? (i := 1186) (by decide +kernel), List.mem_of_getElem? (i := 1564) (by decide +kernel), List.mem_of_getElem? (i := 1565) (by decide +kernel)⟩
theorem lw_p70 : lw_okq (⟨"BowingRowModel", "asItIs", "()V"⟩, 60) := ⟨⟨by decide +kernel, by decide +kernel⟩, List.mem_of_getElem? (i := 1186) (by decide +kernel), List.mem_of_getElem? (i := 1572) (by decide +kernel), List.mem_of_getElem? (i := 1573) (by decide +kernel)⟩
theorem lw_p71 : lw_okq (⟨"BowingRowModel", "layWays", "()V"⟩, 60) := ⟨⟨by decide +kernel, by decide +kernel⟩, List.mem_of_getElem? (i := 1186) (by decide +kernel), List.mem_of_getElem? (i := 1576) (by decide +kernel), List.mem_of_getElem? (i := 1577) (by decide +kernel)⟩
theorem lw_p72 : lw_okq (⟨"BowingRowModel", "day0", "()V"⟩, 60) := ⟨⟨by decide +kernel, by decide +kernel⟩, List.mem_of_getElem? (i := 1186) (by decide +kernel), List.mem_of_getElem? (i := 1580) (by decide +kernel), List.mem_of_getElem? (i := 1581) (by decide +kernel)⟩
theorem lw_p73 : lw_okq (⟨"BowingRowModel", "layThere", "(I)V"⟩, 60) := ⟨⟨by decide +kernel, by decide +kernel⟩, List.mem_of_getElem? (i := 1186) (by decide +kernel), List.mem_of_getElem? (i := 1584) (by decide +kernel), List.mem_of_getElem? (i := 1585) (by decide +kernel)⟩
theorem lw_p74 : lw_okq (⟨"BowingRowModel", "nextComes", "(I)I"⟩, 60) := ⟨⟨by decide +kernel, by decide +kernel⟩, List.mem_of_getElem? (i := 1186) (by decide +kernel), List.mem_of_getElem? (i := 1588) (by decide +kernel), List.mem_of_getElem? (i := 1589) (by decide +kernel)⟩
theorem lw_p75 : lw_okq (⟨"BowingRowModel", "callAt", "(I)V"⟩, 60) := ⟨⟨by decide +kernel, by decide +kernel⟩, List.mem_of_getElem? (i := 1186) (by decide +kernel), List.mem_of_getElem? (i := 1592) (by decide +kernel), List.mem_of_getElem? (i := 1593) (by decide +kernel)⟩
theorem lw_p76 : lw_okq (⟨"BowingRowModel", "dueAt", "(I)I"⟩, 60) := ⟨⟨by decide +kernel, by decide +kernel⟩, List.mem_of_getElem? (i := 1186) (by decide +kernel), List.mem_of_getElem? (i := 1596) (by decide +kernel), List.mem_of_getElem? (i := 1597) (by decide +kernel)⟩
theorem lw_p77 : lw_okq (⟨"BowingRowModel", "balanceOf", "(II)I"⟩, 60) := ⟨⟨by decide +kernel, by decide +kernel⟩, List.mem_of_getElem? (i := 1186) (by decide +kernel), List.mem_of_getElem? (i := 1600) (by decide +kernel), List.mem_of_getElem? (i := 1601) (by decide +kernel)⟩
theorem lw_p78 : lw_okq (⟨"BowingRowModel", "askedAt", "(II)I"⟩, 60) := ⟨⟨by decide +kernel, by decide +kernel⟩, List.mem_of_getElem? (i := 1186) (by decide +kernel), List.mem_of_getElem? (i := 1604) (by decide +kernel), List.mem_of_getElem? (i := 1605) (by decide +kernel)⟩
theorem lw_p79 : lw_okq (⟨"BowingRowModel", "offers", "(IIII)Z"⟩, 60) := ⟨⟨by decide +kernel, by decide +kernel⟩, List.mem_of_getElem? (i := 1186) (by decide +kernel), List.mem_of_getElem? (i := 1608) (by decide +kernel), List.mem_of_getElem? (i := 1609) (by decide +kernel)⟩
def lw_privs_5 : List (MethodName × Nat) := [(⟨"BowingRowModel", "numberOf", "(II)I"⟩, 60), (⟨"BowingRowModel", "isPerson", "(I)Z"⟩, 60), (⟨"BowingRowModel", "mustBe", "(III)Z"⟩, 60), (⟨"BowingRowModel", "layNames", "(III)V"⟩, 60), (⟨"BowingRowModel", "comes", "(I)I"⟩, 60), (⟨"BowingRowModel", "worthOf", "(III)I"⟩, 60), (⟨"BowingRowModel", "asItIs", "()V"⟩, 60), (⟨"BowingRowModel", "layWays", "()V"⟩, 60), (⟨"BowingRowModel", "day0", "()V"⟩, 60), (⟨"BowingRowModel", "layThere", "(I)V"⟩, 60), (⟨"BowingRowModel", "nextComes", "(I)I"⟩, 60), (⟨"BowingRowModel", "callAt", "(I)V"⟩, 60), (⟨"BowingRowModel", "dueAt", "(I)I"⟩, 60), (⟨"BowingRowModel", "balanceOf", "(II)I"⟩, 60), (⟨"BowingRowModel", "askedAt", "(II)I"⟩, 60), (⟨"BowingRowModel", "offers", "(IIII)Z"⟩, 60)]
theorem lw_r5 : ∀ q ∈ lw_privs_5, lw_okq q := List.forall_mem_cons.mpr ⟨lw_p64, List.forall_mem_cons.mpr ⟨lw_p65, List.forall_mem_cons.mpr ⟨lw_p66, List.forall_mem_cons.mpr ⟨lw_p67, List.forall_mem_cons.mpr ⟨lw_p68, List.forall_mem_cons.mpr ⟨lw_p69, List.forall_mem_cons.mpr ⟨lw_p70, List.forall_mem_cons.mpr ⟨lw_p71, List.forall_mem_cons.mpr ⟨lw_p72, List.forall_mem_cons.mpr ⟨lw_p73, List.forall_mem_cons.mpr ⟨lw_p74, List.forall_mem_cons.mpr ⟨lw_p75, List.forall_mem_cons.mpr ⟨lw_p76, List.forall_mem_cons.mpr ⟨lw_p77, List.forall_mem_cons.mpr ⟨lw_p78, List.forall_mem_cons.mpr ⟨lw_p79, fun _ h => absurd h List.not_mem_nil⟩⟩⟩⟩⟩⟩⟩⟩⟩⟩⟩⟩⟩⟩⟩⟩
theorem lw_p80 : lw_okq (⟨"BowingRowModel", "passes", "(III)V"⟩, 60) := ⟨⟨by decide +kernel, by decide +kernel⟩, List.mem_of_getElem? (i := 1186) (by decide +kernel), List.mem_of_getElem? (i := 1612) (by decide +kernel), List.mem_of_getElem? (i := 1613) (by decide +kernel)⟩
theorem lw_p81 : lw_okq (⟨"BowingRowModel", "bookOf", "(II)I"⟩, 60) := ⟨⟨by decide +kernel, by decide +kernel⟩, List.mem_of_getElem? (i := 1186) (by decide +kernel), List.mem_of_getElem? (i := 1636) (by decide +kernel), List.mem_of_getElem? (i := 1637) (by decide +kernel)⟩
theorem lw_p82 : lw_okq (⟨"BowingRowModel", "setsOff", "()Z"⟩, 60) := ⟨⟨by decide +kernel, by decide +kernel⟩, List.mem_of_getElem? (i := 1186) (by decide +kernel), List.mem_of_getElem? (i := 1644) (by decide +kernel), List.mem_of_getElem? (i := 1645) (by decide +kernel)⟩
theorem lw_p83 : lw_okq (⟨"BowingRowModel", "planEnds", "(II)I"⟩, 60) := ⟨⟨by decide +kernel, by decide +kernel⟩, List.mem_of_getElem? (i := 1186) (by decide +kernel), List.mem_of_getElem? (i := 1668) (by decide +kernel), List.mem_of_getElem? (i := 1669) (by decide +kernel)⟩
theorem lw_p84 : lw_okq (⟨"BowingRowModel", "endOf", "(I)I"⟩, 60) := ⟨⟨by decide +kernel, by decide +kernel⟩, List.mem_of_getElem? (i := 1186) (by decide +kernel), List.mem_of_getElem? (i := 1680) (by decide +kernel), List.mem_of_getElem? (i := 1681) (by decide +kernel)⟩
theorem lw_p85 : lw_okq (⟨"BowingRowModel", "layAll", "()V"⟩, 60) := ⟨⟨by decide +kernel, by decide +kernel⟩, List.mem_of_getElem? (i := 1186) (by decide +kernel), List.mem_of_getElem? (i := 1688) (by decide +kernel), List.mem_of_getElem? (i := 1689) (by decide +kernel)⟩
theorem lw_p86 : lw_okq (⟨"BowingRowModel", "allRows", "()I"⟩, 60) := ⟨⟨by decide +kernel, by decide +kernel⟩, List.mem_of_getElem? (i := 1186) (by decide +kernel), List.mem_of_getElem? (i := 1692) (by decide +kernel), List.mem_of_getElem? (i := 1693) (by decide +kernel)⟩
theorem lw_p87 : lw_okq (⟨"BowingRowModel", "isRest", "(I)Z"⟩, 60) := ⟨⟨by decide +kernel, by decide +kernel⟩, List.mem_of_getElem? (i := 1186) (by decide +kernel), List.mem_of_getElem? (i := 1699) (by decide +kernel), List.mem_of_getElem? (i := 1700) (by decide +kernel)⟩
theorem lw_p88 : lw_okq (⟨"BowingRowModel", "servedWithout", "(I)I"⟩, 60) := ⟨⟨by decide +kernel, by decide +kernel⟩, List.mem_of_getElem? (i := 1186) (by decide +kernel), List.mem_of_getElem? (i := 1714) (by decide +kernel), List.mem_of_getElem? (i := 1715) (by decide +kernel)⟩
theorem lw_p89 : lw_okq (⟨"BowingRowModel", "moves", "([IZ)V"⟩, 60) := ⟨⟨by decide +kernel, by decide +kernel⟩, List.mem_of_getElem? (i := 1186) (by decide +kernel), List.mem_of_getElem? (i := 1726) (by decide +kernel), List.mem_of_getElem? (i := 1727) (by decide +kernel)⟩
def lw_privs_6 : List (MethodName × Nat) := [(⟨"BowingRowModel", "passes", "(III)V"⟩, 60), (⟨"BowingRowModel", "bookOf", "(II)I"⟩, 60), (⟨"BowingRowModel", "setsOff", "()Z"⟩, 60), (⟨"BowingRowModel", "planEnds", "(II)I"⟩, 60), (⟨"BowingRowModel", "endOf", "(I)I"⟩, 60), (⟨"BowingRowModel", "layAll", "()V"⟩, 60), (⟨"BowingRowModel", "allRows", "()I"⟩, 60), (⟨"BowingRowModel", "isRest", "(I)Z"⟩, 60), (⟨"BowingRowModel", "servedWithout", "(I)I"⟩, 60), (⟨"BowingRowModel", "moves", "([IZ)V"⟩, 60)]
theorem lw_r6 : ∀ q ∈ lw_privs_6, lw_okq q := List.forall_mem_cons.mpr ⟨lw_p80, List.forall_mem_cons.mpr ⟨lw_p81, List.forall_mem_cons.mpr ⟨lw_p82, List.forall_mem_cons.mpr ⟨lw_p83, List.forall_mem_cons.mpr ⟨lw_p84, List.forall_mem_cons.mpr ⟨lw_p85, List.forall_mem_cons.mpr ⟨lw_p86, List.forall_mem_cons.mpr ⟨lw_p87, List.forall_mem_cons.mpr ⟨lw_p88, List.forall_mem_cons.mpr ⟨lw_p89, fun _ h => absurd h List.not_mem_nil⟩⟩⟩⟩⟩⟩⟩⟩⟩⟩
def lw_privs : List (MethodName × Nat) := lw_privs_1 ++ (lw_privs_2 ++ (lw_privs_3 ++ (lw_privs_4 ++ (lw_privs_5 ++ (lw_privs_6)))))
def lw_tbl : List Cond := k2_sels lw_privs ++ tables_1
theorem lw_privs_ok : ∀ q ∈ lw_privs, lw_okq q := by
  show ∀ q ∈ lw_privs_1 ++ (lw_privs_2 ++ (lw_privs_3 ++ (lw_privs_4 ++ (lw_privs_5 ++ (lw_privs_6))))), lw_okq q
  exact List.forall_mem_append.mpr ⟨lw_r1, List.forall_mem_append.mpr ⟨lw_r2, List.forall_mem_append.mpr ⟨lw_r3, List.forall_mem_append.mpr ⟨lw_r4, List.forall_mem_append.mpr ⟨lw_r5, lw_r6⟩⟩⟩⟩⟩
end
section
/-! ===== BEGIN words of one list among another's, by their places ===== -/
theorem goodIn_r {big : List Cond} (ws : List Cond) (ps : List Nat) (hp : ws = ps.filterMap (fun i => big[i]?)) (h : ws.all goodWord = true) : GoodIn big ws := by
  intro w hw
  have h1 := List.all_eq_true.mp h w hw
  rw [hp] at hw
  obtain ⟨i, -, hi⟩ := List.mem_filterMap.mp hw
  have hm : w ∈ big := by first | exact List.mem_of_getElem? hi | exact List.getElem?_mem hi
  exact ⟨hm, good_of_word h1⟩
theorem goodIn_app {big a b : List Cond} (ha : GoodIn big a) (hb : GoodIn big b) : GoodIn big (a ++ b) := fun w h => (List.mem_append.mp h).elim (ha w) (hb w)
theorem goodIn_ca {big a b : List Cond} {c : Cond} (ha : GoodIn big (c :: a)) (hb : GoodIn big b) : GoodIn big (c :: (a ++ b)) := fun w h => (List.mem_cons.mp h).elim (fun e => ha w (List.mem_cons.mpr (Or.inl e))) (fun h => (List.mem_append.mp h).elim (fun h => ha w (List.mem_cons.mpr (Or.inr h))) (hb w))
theorem goodIn_sub {big ws : List Cond} (hm : ∀ w ∈ ws, w ∈ big) (h : ws.all goodWord = true) : GoodIn big ws := fun w hw => ⟨hm w hw, good_of_word (List.all_eq_true.mp h w hw)⟩
/-! ===== END ===== -/

/-! ===== BEGIN new T[n][m]: the outer array a place, the inner ones among the pooled ===== -/
/-- f, but v at every address of l -/
def vr_up {α : Type} (f : Nat → α) (l : List Nat) (v : α) : Nat → α := fun a => if a ∈ l then v else f a
theorem vr_up_in {α : Type} {f : Nat → α} {l : List Nat} {v : α} {a : Nat} (h : a ∈ l) : vr_up f l v a = v := if_pos h
theorem vr_up_ne {α : Type} {f : Nat → α} {l : List Nat} {v : α} {a : Nat} (h : a ∉ l) : vr_up f l v a = f a := if_neg h
theorem vr_rows {L l : List Nat} {f : Nat → va_E} {e : va_E} (h : ∀ a, a ∈ l → a ∉ L) : va_pl L f ++ l.map (fun a => (a, e)) = va_pl (L ++ l) (vr_up f l e) := by
  unfold va_pl
  rw [List.map_append]
  congr 1
  · apply List.map_congr_left
    intro a ha
    rw [vr_up_ne (fun q => h a q ha)]
  · apply List.map_congr_left
    intro a ha
    rw [vr_up_in ha]
theorem vr_lay {X rows : va_W} {x : Nat × va_E} {pl : va_W} {D : va_G} {cl : List vw_C} {H : Heap} (hP : va_P D cl (((X ++ pl) ++ [x]) ++ rows) H) : va_P D cl ((X ++ [x]) ++ (pl ++ rows)) H := by
  rw [List.append_assoc (X ++ pl)] at hP
  have h := va_P.swap hP
  rw [← List.append_assoc X] at h
  have h2 := va_P.swap h
  rw [List.append_assoc (X ++ [x])] at h2
  exact h2
theorem vr_layD {X rows : va_W} {x : Nat × va_E} {pl : va_W} {A : Nat → Prop} (hD : va_D A (((X ++ pl) ++ [x]) ++ rows)) : va_D A ((X ++ [x]) ++ (pl ++ rows)) := by
  rw [List.append_assoc (X ++ pl)] at hD
  have h := va_D.swap hD
  rw [← List.append_assoc X] at h
  have h2 := va_D.swap h
  rw [List.append_assoc (X ++ [x])] at h2
  exact h2
theorem vr_outer (c : ClassId) (N h0 : Nat) : ∀ i : Nat, Jvm.Free.Multi.outerC c N h0 i = arrV c N (fun j => va_rf (if j < i then some (h0 + 1 + j) else none))
  | 0 => by
    show ({ cls := c, slots := Array.replicate N .null, vm := .none } : Cell) = _
    rw [arrV_new]
    refine congrArg (arrV c N) (funext fun j => ?_)
    simp [va_rf]
  | i + 1 => by
    show (Jvm.Free.Multi.outerC c N h0 i).setSlot i (.ref (h0 + 1 + i)) = _
    rw [vr_outer c N h0 i, arrV_store]
    refine congrArg (arrV c N) (funext fun j => ?_)
    by_cases e : j = i
    · subst e
      simp [updV, va_rf]
    · by_cases h : j < i
      · simp [updV, e, h, Nat.lt_succ_of_lt h]
      · simp [updV, e, h, show ¬ j < i + 1 by omega]
/-! ===== END ===== -/

/-! ===== BEGIN exceptions that leave a method, and their catching by the caller (launches without stack traces) ===== -/
section VXA
/-! The laws vx_back, vx_callV, vx_callS, vx_callSW, vx_throw0, vx_throwS follow proofs of the library, with one case more: JvmDerived/Free/Laws.lean (Back.of_free), Shelf42/LK1.lean (callV, callS), Shelf/KitTraced.lean (throwNew0V, throwNewS). -/
/-- where a method has thrown q: the class by its name, the cell, what was written, the world -/
def vx_T (XC : String → State → State → Prop) (st : State) (q : Addr) (t : State) (mc ms : Nat) (free : Addr → Prop) : Prop :=
  ∃ (E : String) (ce : Cell) (L : List Loc), XC E st t ∧ t.heap[q]? = some ce ∧ ce.vm = .none ∧ st.vm.findClass E = some ce.cls ∧ st.WarmedH t.vm ∧ st.sameButNew ({ t with vm := st.vm } : State) L mc ms ∧ ∀ z ∈ L, free z.base
def vx_Q (Qc : Array Value → State → Outcome → State → Prop) (XC : String → State → State → Prop) (mc ms : Nat) (free : Addr → Prop) : Array Value → State → Outcome → State → Prop := fun a st o t =>
  (Qc a st o t ∧ ∃ L, FrameEnd st o t L mc ms ∧ ∀ q ∈ L, free q.base) ∨ ∃ q, o = .threw q ∧ vx_T XC st q t mc ms free
/-- a callee that returns or throws -/
def vx_Met (l : Launch) (y : MethodName) (ws : List Cond) (rm : Room) (Pc : Array Value → State → Prop) (Qc : Array Value → State → Outcome → State → Prop) (XC : String → State → State → Prop) (mc ms : Nat) (free : Addr → Prop) : Prop :=
  MetFree l y (headSpec ws rm) Pc (fun _ _ _ _ _ => True) (vx_Q Qc XC mc ms free)
def vx_Post (XC : String → State → State → Prop) (mc ms : Nat) (free : Addr → Prop) : Pt → Array Value → Addr → Pt → Prop := fun A a q B =>
  ∃ (g : JFrame) (mk : MethodId) (t : State) (L : List Loc) (E : String) (ce : Cell), B.U.heap = t.heap ∧ B.U.vm = t.vm ∧ XC E (A.U.calling g mk a) t ∧ t.heap[q]? = some ce ∧ ce.vm = .none ∧ A.U.vm.findClass E = some ce.cls ∧ B.locs = A.locs ++ L ∧ (∀ z ∈ L, free z.base) ∧ B.cells = A.cells + mc ∧ B.slots = A.slots + ms
def vx_Back (l : Launch) (R : Room) (p : Program) (e : Env) (below : List Frame) (s : State) (sargs : Array Value) (y : MethodName) (len W9 : Nat)
    (Pre : Pt → Array Value → Prop) (Post : Pt → Array Value → Option Value → Pt → Prop) (PostX : Pt → Array Value → Addr → Pt → Prop) : Prop :=
  ∀ (m : MethodId) (meth : Method) (c : Code) (A : Pt) (g : JFrame) (ig : Instr) (mk : MethodId) (a : Array Value),
    Stand p l e R s m sargs below meth c A.U A.locs A.cells A.slots → g.method = m → g.locals.size = c.maxLocals → decode c.code g.pc = .ok (ig, len) →
    2 * g.monitorRoom + (g.stack.map fun v => v.category).sum ≤ W9 → A.U.methodNamed? y = some mk → Pre A a →
    (∃ (v : Option Value) (B : Pt), Stand p l e R s m sargs below meth c B.U B.locs B.cells B.slots ∧ Post A a v B ∧
      Steps p.tables e below (doInvoke e (A.U.setTop g) [] mk a).1 (B.U.setTop { g with pc := g.pc + len, stack := v.toList ++ g.stack })) ∨
    (∃ (q : Addr) (B : Pt), Stand p l e R s m sargs below meth c B.U B.locs B.cells B.slots ∧ PostX A a q B ∧
      Steps p.tables e below (doInvoke e (A.U.setTop g) [] mk a).1 ((B.U.setTop g).pushFrame (.throwing q)))
section Payer
variable {l : Launch} {R : Room} {p : Program} {e : Env} {below : List Frame} {s : State} {sargs : Array Value} {y : MethodName} {len W9 : Nat}
theorem vx_back {ws : List Cond} {rm : Room} {Pc : Array Value → State → Prop} {Qc : Array Value → State → Outcome → State → Prop} {XC : String → State → State → Prop} {mc ms : Nat} {free : Addr → Prop} {bytes : ByteArray} {maxL : Nat} {ret : Option FieldType}
    (hM : vx_Met l y ws rm Pc Qc XC mc ms free) (hblind : FrameBlind Pc) (hrc : rm.cells = mc) (hrs : rm.slots = ms)
    (hframes : rm.frames + 1 ≤ R.frames) (hlocals : W9 + (maxL + 11) + rm.locals ≤ R.locals)
    (hws : ∀ w ∈ ws, ∀ a' U, s.WarmedH U.vm → w.before a' U = true) (hcode : Cond.code y bytes maxL ret ∈ ws) (hinit : ∀ a' U, s.WarmedH U.vm → (Cond.initialized y.cls).before a' U = true) :
    vx_Back l R p e below s sargs y len W9 (PreOf R mc ms Pc) (PostOf Qc mc ms free) (vx_Post XC mc ms free) := by
  intro m meth c A g ig mk a X hg hsize hdg hW hn hp
  have h1 : (headSpec ws rm).pre.before a A.U = true := atoms_intro fun w hw => hws w hw _ _ X.warmed
  have h2 : (Cond.code y bytes maxL ret).before a A.U = true := hws _ hcode _ _ X.warmed
  have h3 : (Cond.initialized y.cls).before a A.U = true := hinit _ _ X.warmed
  have h4 : A.cells + (headSpec ws rm).room.cells ≤ R.cells := by rw [show (headSpec ws rm).room.cells = mc from hrc]; exact hp.1
  have h5 : A.slots + (headSpec ws rm).room.slots ≤ R.slots := by rw [show (headSpec ws rm).room.slots = ms from hrs]; exact hp.2.1
  have hPc : Pc a (A.U.calling g mk a) := hblind _ _ _ _ hp.2.2
  obtain ⟨U, Ls, c0, s0⟩ := A
  dsimp only [Pt.U, Pt.locs, Pt.cells, Pt.slots] at h1 h2 h3 h4 h5 X hn hPc ⊢
  obtain ⟨methY, cY, hmY, hcY, -, hlY, -, -, -, -⟩ := Cond.code_spec hn h2
  obtain ⟨kY, hkY, -⟩ := className_of_methodNamed hn
  have hinitY : kY.init = .initialized := Cond.initialized_spec (findClass_of_methodNamed hn) hkY h3
  have h : At U g.method c below := by rw [hg]; exact X.here
  have hlocals9 : W9 + (maxL + 11) + (headSpec ws rm).room.locals ≤ R.locals := hlocals
  have happ : (headSpec ws rm).appliesLoose y e.platform (U.calling g mk a) = true :=
    Spec.appliesLoose_calling (g := g) h hdg hn hkY hinitY
      (X.room_calling (g := g) (R' := (headSpec ws rm).room) hsize hmY hcY hframes (by rw [hlY]; omega) h4 h5) h1
  obtain ⟨mid, hmid⟩ := h.above
  have hfr : (U.setTop g).frames = (.java g :: mid) ++ below := by rw [State.frames_setTop' g h.top, hmid]; rfl
  obtain ⟨o, s₂, hsteps, -, hend, hq⟩ := Steps.callFree hM p X.admits X.cas X.clock (acts := []) hfr happ hPc trivial
  have hq' : vx_Q Qc XC mc ms free a (U.calling g mk a) o s₂ := hq
  rw [State.frames_setTop' g h.top] at hend
  obtain ⟨g₀, hg0⟩ := Option.isSome_iff_exists.mp h.top
  obtain ⟨r, hr⟩ := State.topJava?_eq_some.mp hg0
  have hr' : (({ U with heap := s₂.heap, slotsUsed := s₂.slotsUsed } : State).setVm s₂.vm).frames = .java g₀ :: r := hr
  rcases hq' with ⟨hqc, L, hfe, hL⟩ | ⟨q, rfl, E, ce, L, hx, hce, hcv, hcl, hW₂, hsm, hL⟩
  · obtain ⟨⟨v, rfl⟩, hW₂, e2, q2, q3, q4, q5, q6⟩ := id hfe
    have e3 : s₂ = ({ (U.calling g mk a).setFrames s₂.frames with heap := s₂.heap, slotsUsed := s₂.slotsUsed } : State).setVm s₂.vm := by
      have : s₂ = ({ s₂ with vm := (U.calling g mk a).vm } : State).setVm s₂.vm := rfl
      rw [e2] at this
      exact this
    obtain ⟨c₂, i₂, len₂, hc₂, hd₂, hf₂⟩ := hend
    have hW' : U.WarmedH s₂.vm := hW₂
    have hcc : c₂ = c := by
      have h1 : s₂.code? g.method = U.code? g.method := by
        rw [State.code?_eq, State.code?_eq, hW'.alike.method?]
      exact Option.some.inj (hc₂.symm.trans (h1.trans h.code))
    subst hcc
    have hlen : len₂ = len := by rw [hdg] at hd₂; cases hd₂; rfl
    subst hlen
    have hs₂ : s₂ = (({ U with heap := s₂.heap, slotsUsed := s₂.slotsUsed } : State).setVm s₂.vm).setTop { g with pc := g.pc + len₂, stack := v.toList ++ g.stack } := by
      refine e3.trans ?_
      rw [hf₂, State.calling_eq h.top, State.setFrames_setFrames, State.setTop_of_frames _ hr', hr]
      rfl
    have hsame : U.sameButNew ({ U with heap := s₂.heap, slotsUsed := s₂.slotsUsed } : State) L mc ms := by
      refine ⟨?_, q2, q3, q4, q5, q6⟩
      obtain ⟨t, ht, -⟩ := State.frames_cons hr
      show ({ U with heap := s₂.heap, slotsUsed := s₂.slotsUsed } : State) = { U.setFrames U.frames with heap := s₂.heap, slotsUsed := s₂.slotsUsed }
      rw [State.setFrames_self ht]
    subst hg
    refine Or.inl ⟨v, ⟨(({ U with heap := s₂.heap, slotsUsed := s₂.slotsUsed } : State).setVm s₂.vm), Ls ++ L, c0 + mc, s0 + ms⟩,
      ⟨X.admits, X.cas, X.clock, X.frames, X.room, X.hears, X.method, X.code, (X.here.setHeapUsed s₂.heap s₂.slotsUsed).setVm hW'.alike, X.tail, State.WarmedH.trans X.warmed hW', X.limits, X.bytes, X.same.trans (hsame.setVm s.vm)⟩,
      ⟨g, mk, s₂, L, rfl, rfl, hqc, rfl, hL, rfl, rfl⟩, ?_⟩
    show Steps p.tables e below _ ((({ U with heap := s₂.heap, slotsUsed := s₂.slotsUsed } : State).setVm s₂.vm).setTop { g with pc := g.pc + len₂, stack := v.toList ++ g.stack })
    rw [← hs₂]
    exact hsteps
  · obtain ⟨e2, q2, q3, q4, q5, q6⟩ := id hsm
    have e3 : s₂ = ({ (U.calling g mk a).setFrames s₂.frames with heap := s₂.heap, slotsUsed := s₂.slotsUsed } : State).setVm s₂.vm := by
      have : s₂ = ({ s₂ with vm := (U.calling g mk a).vm } : State).setVm s₂.vm := rfl
      rw [e2] at this
      exact this
    have hf₂ : s₂.frames = .throwing q :: .java g :: U.frames.tail := hend
    have hW' : U.WarmedH s₂.vm := hW₂
    have hs₂ : s₂ = ((({ U with heap := s₂.heap, slotsUsed := s₂.slotsUsed } : State).setVm s₂.vm).setTop g).pushFrame (.throwing q) := by
      refine e3.trans ?_
      rw [hf₂, State.calling_eq h.top, State.setFrames_setFrames, State.pushFrame, State.frames_setTop _ hr', State.setTop_of_frames _ hr', State.setFrames_setFrames, hr]
      rfl
    have hsame : U.sameButNew ({ U with heap := s₂.heap, slotsUsed := s₂.slotsUsed } : State) L mc ms := by
      refine ⟨?_, q2, q3, q4, q5, q6⟩
      obtain ⟨t, ht, -⟩ := State.frames_cons hr
      show ({ U with heap := s₂.heap, slotsUsed := s₂.slotsUsed } : State) = { U.setFrames U.frames with heap := s₂.heap, slotsUsed := s₂.slotsUsed }
      rw [State.setFrames_self ht]
    subst hg
    refine Or.inr ⟨q, ⟨(({ U with heap := s₂.heap, slotsUsed := s₂.slotsUsed } : State).setVm s₂.vm), Ls ++ L, c0 + mc, s0 + ms⟩,
      ⟨X.admits, X.cas, X.clock, X.frames, X.room, X.hears, X.method, X.code, (X.here.setHeapUsed s₂.heap s₂.slotsUsed).setVm hW'.alike, X.tail, State.WarmedH.trans X.warmed hW', X.limits, X.bytes, X.same.trans (hsame.setVm s.vm)⟩,
      ⟨g, mk, s₂, L, E, ce, rfl, rfl, hx, hce, hcv, hcl, rfl, hL, rfl, rfl⟩, ?_⟩
    show Steps p.tables e below _ (((({ U with heap := s₂.heap, slotsUsed := s₂.slotsUsed } : State).setVm s₂.vm).setTop g).pushFrame (.throwing q))
    rw [← hs₂]
    exact hsteps
end Payer
section Calls
variable {p : Program} {l : Launch} {e : Env} {R : Room} {s : State} {m : MethodId} {args : Array Value} {below : List Frame} {meth : Method} {c : Code} {T : State} {locs : List Loc} {cells slots : Nat}
theorem vx_callV (X : Stand p l e R s m args below meth c T locs cells slots) (hexec : p.tables.exec = Jvm.exec) {own C : String} {index : Nat} {y : MethodName} {bytes : ByteArray} {maxL : Nat} {ret : Option FieldType}
    (hown : s.vm.findClass own = some m.cls) (hlink : (Cond.methodLink own index y).before args s = true) (hinst : (Cond.instanceMethod y).before args s = true) (hsel : (Cond.selects C y y).before args s = true)
    (hcode : (Cond.code y bytes maxL ret).before args s = true) (hy : y.cls ≠ "java/lang/invoke/MethodHandle" ∧ y.cls ≠ "java/lang/invoke/VarHandle")
    {W9 : Nat} {Pre : Pt → Array Value → Prop} {Post : Pt → Array Value → Option Value → Pt → Prop} {PostX : Pt → Array Value → Addr → Pt → Prop} (hK : vx_Back l R p e below s args y 3 W9 Pre Post PostX)
    {b : Addr} {cellB : Cell} (hcell : T.heap[b]? = some cellB) (hobj : cellB.vm.isStatics = false) (hcls : s.vm.findClass C = some cellB.cls)
    {g : JFrame} (hg : g.method = m) (hsize : g.locals.size = c.maxLocals) {argsL rest : List Value} (hlen : ∀ sig, parseMethodDescriptor y.desc = some sig → argsL.length = sig.parameters.length)
    (hstack : g.stack = argsL.reverse ++ .ref b :: rest) (hW : 2 * g.monitorRoom + (rest.map fun v => v.category).sum ≤ W9) (hdg : decode c.code g.pc = .ok (.invokevirtual index, 3))
    (hpre : ∀ vm₁, s.WarmedH vm₁ → Pre ⟨T.setVm vm₁, locs, cells, slots⟩ (Value.ref b :: argsL).toArray) :
    (∃ (v : Option Value) (vm₁ : Vm) (B : Pt), s.WarmedH vm₁ ∧ Stand p l e R s m args below meth c B.U B.locs B.cells B.slots ∧ Post ⟨T.setVm vm₁, locs, cells, slots⟩ (Value.ref b :: argsL).toArray v B ∧
      ∀ target, Steps p.tables e below (B.U.setTop { g with pc := g.pc + 3, stack := v.toList ++ rest }) target → Steps p.tables e below (T.setTop g) target) ∨
    (∃ (q : Addr) (vm₁ : Vm) (B : Pt), s.WarmedH vm₁ ∧ Stand p l e R s m args below meth c B.U B.locs B.cells B.slots ∧ PostX ⟨T.setVm vm₁, locs, cells, slots⟩ (Value.ref b :: argsL).toArray q B ∧
      Steps p.tables e below (T.setTop g) ((B.U.setTop { g with stack := rest }).pushFrame (.throwing q))) := by
  obtain ⟨mk, methM, hnamed, hmethM, hstM, habM⟩ := Cond.instanceMethod_spec hinst
  obtain ⟨methM', cM, hmethM', -, -, -, -, -, -, hsigM⟩ := Cond.code_spec hnamed hcode
  cases hmethM.symm.trans hmethM'
  obtain ⟨c2, r2, m2, q1, q2, q3, q4, kP, hkP, hkPi⟩ := Cond.selects_spec hsel
  cases hcls.symm.trans q1
  cases (State.methodFound?_of_named hnamed hy).symm.trans q2
  cases hnamed.symm.trans q3
  have hselP : selectMethod e.platform s.vm cellB.cls mk = .method mk := by rw [Launch.admits_selectMethod X.admits]; exact q4
  obtain ⟨vm₁, X₁, hstep₁⟩ := X.invokevirtual hexec hown hlink hnamed hmethM hstM hkP hkPi hy (a := b) (cell := cellB) hcell
    (fun z h => by rw [h] at hobj; cases hobj) hselP hmethM habM hkP hkPi (g := g) hg (argsL := argsL) (rest := rest) (hlen _ hsigM) hstack hdg
  rcases hK m meth c ⟨T.setVm vm₁, locs, cells, slots⟩ { g with stack := rest } (.invokevirtual index) mk (Value.ref b :: argsL).toArray X₁ hg hsize hdg hW (X₁.named hnamed) (hpre vm₁ X₁.warmed) with ⟨v, B, X', hpost, hsteps⟩ | ⟨q, B, X', hpost, hsteps⟩
  · exact Or.inl ⟨v, vm₁, B, X₁.warmed, X', hpost, fun target h => hstep₁ _ fun acts => by rw [doInvoke_state]; exact hsteps.trans h⟩
  · exact Or.inr ⟨q, vm₁, B, X₁.warmed, X', hpost, hstep₁ _ fun acts => by rw [doInvoke_state]; exact hsteps⟩
theorem vx_callS (X : Stand p l e R s m args below meth c T locs cells slots) (hexec : p.tables.exec = Jvm.exec) {own : String} {index : Nat} {y : MethodName} {bytes : ByteArray} {maxL : Nat} {ret : Option FieldType}
    (hown : s.vm.findClass own = some m.cls) (hlink : (Cond.methodLink own index y).before args s = true) (hstat : (Cond.static y).before args s = true) (hinit : (Cond.initialized y.cls).before args s = true)
    (hcode : (Cond.code y bytes maxL ret).before args s = true) (hy : y.cls ≠ "java/lang/invoke/MethodHandle" ∧ y.cls ≠ "java/lang/invoke/VarHandle")
    {W9 : Nat} {Pre : Pt → Array Value → Prop} {Post : Pt → Array Value → Option Value → Pt → Prop} {PostX : Pt → Array Value → Addr → Pt → Prop} (hK : vx_Back l R p e below s args y 3 W9 Pre Post PostX)
    {g : JFrame} (hg : g.method = m) (hsize : g.locals.size = c.maxLocals) {argsL rest : List Value} (hlen : ∀ sig, parseMethodDescriptor y.desc = some sig → argsL.length = sig.parameters.length)
    (hstack : g.stack = argsL.reverse ++ rest) (hW : 2 * g.monitorRoom + (rest.map fun v => v.category).sum ≤ W9) (hdg : decode c.code g.pc = .ok (.invokestatic index, 3))
    (hpre : ∀ vm₁, s.WarmedH vm₁ → Pre ⟨T.setVm vm₁, locs, cells, slots⟩ argsL.toArray) :
    (∃ (v : Option Value) (vm₁ : Vm) (B : Pt), s.WarmedH vm₁ ∧ Stand p l e R s m args below meth c B.U B.locs B.cells B.slots ∧ Post ⟨T.setVm vm₁, locs, cells, slots⟩ argsL.toArray v B ∧
      ∀ target, Steps p.tables e below (B.U.setTop { g with pc := g.pc + 3, stack := v.toList ++ rest }) target → Steps p.tables e below (T.setTop g) target) ∨
    (∃ (q : Addr) (vm₁ : Vm) (B : Pt), s.WarmedH vm₁ ∧ Stand p l e R s m args below meth c B.U B.locs B.cells B.slots ∧ PostX ⟨T.setVm vm₁, locs, cells, slots⟩ argsL.toArray q B ∧
      Steps p.tables e below (T.setTop g) ((B.U.setTop { g with stack := rest }).pushFrame (.throwing q))) := by
  obtain ⟨mk, hnamed⟩ := Cond.code_named hcode
  obtain ⟨methM, cM, hmethM, -, -, -, -, -, -, hsigM⟩ := Cond.code_spec hnamed hcode
  have hstatic : methM.isStatic = true := Cond.static_spec hnamed hmethM hstat
  obtain ⟨kP, hkP, -⟩ := className_of_methodNamed hnamed
  have hinitP : kP.init = .initialized := Cond.initialized_spec (findClass_of_methodNamed hnamed) hkP hinit
  obtain ⟨vm₁, X₁, hstep₁⟩ := X.invokestatic hexec hown hlink hnamed hmethM hstatic hkP hinitP hy (g := g) hg (argsL := argsL) (rest := rest) (hlen _ hsigM) hstack hdg
  rcases hK m meth c ⟨T.setVm vm₁, locs, cells, slots⟩ { g with stack := rest } (.invokestatic index) mk argsL.toArray X₁ hg hsize hdg hW (X₁.named hnamed) (hpre vm₁ X₁.warmed) with ⟨v, B, X', hpost, hsteps⟩ | ⟨q, B, X', hpost, hsteps⟩
  · exact Or.inl ⟨v, vm₁, B, X₁.warmed, X', hpost, fun target h => hstep₁ _ fun acts => by rw [doInvoke_state]; exact hsteps.trans h⟩
  · exact Or.inr ⟨q, vm₁, B, X₁.warmed, X', hpost, hstep₁ _ fun acts => by rw [doInvoke_state]; exact hsteps⟩
end Calls
theorem vx_cls {s : State} {T : State} {vm₁ : Vm} {E : String} {k : ClassId} (hW : s.WarmedH vm₁) (h : (T.setVm vm₁).vm.findClass E = some k) : s.vm.findClass E = some k := by
  have h1 : vm₁.findClass E = some k := h
  rw [hW.alike.findClass] at h1
  exact h1
/-- the method's frame g, with q thrown over it -/
def vx_W (p : Program) (l : Launch) (e : Env) (R : Room) (s : State) (m : MethodId) (args : Array Value) (below : List Frame) (meth : Method) (c : Code) (H : Heap) (locs : List Loc) (cells slots : Nat) (Q : State → Prop) (g : JFrame) (q : Addr) : Prop :=
  ∀ T : State, T.heap = H → Stand p l e R s m args below meth c T locs cells slots → ∃ t, Steps p.tables e below ((T.setTop g).pushFrame (.throwing q)) t ∧ Q t
def vx_Run (p : Program) (l : Launch) (e : Env) (R : Room) (s : State) (m : MethodId) (args : Array Value) (below : List Frame) (meth : Method) (c : Code) (H : Heap) (locs : List Loc) (cells slots mc ms : Nat) (g : JFrame) (rest : List Value) (Qa : State → Outcome → State → Prop) (XC : String → State → State → Prop) (free : Addr → Prop) : Prop :=
  ∀ T : State, T.heap = H → Stand p l e R s m args below meth c T locs cells slots →
    (∃ (v : Option Value) (st₀ t T' : State) (L : List Loc), st₀.heap = H ∧ Stand p l e R s m args below meth c T' (locs ++ L) (cells + mc) (slots + ms) ∧ (∀ q ∈ L, free q.base) ∧ T'.heap = t.heap ∧ T'.vm = t.vm ∧ Qa st₀ (.returned v) t ∧
      Goes p e below T g T' { g with pc := g.pc + 3, stack := v.toList ++ rest }) ∨
    (∃ (q : Addr) (st₀ t T' : State) (L : List Loc) (E : String) (ce : Cell), st₀.heap = H ∧ Stand p l e R s m args below meth c T' (locs ++ L) (cells + mc) (slots + ms) ∧ (∀ z ∈ L, free z.base) ∧ T'.heap = t.heap ∧ T'.vm = t.vm ∧ XC E st₀ t ∧ t.heap[q]? = some ce ∧ ce.vm = .none ∧ s.vm.findClass E = some ce.cls ∧
      Steps p.tables e below (T.setTop g) ((T'.setTop { g with stack := rest }).pushFrame (.throwing q)))
def vx_X {S : Type} (px : S → Prop) (B : String → S → State → Prop) (A : Nat → Prop) : String → State → State → Prop := fun E st t => ∃ u : S, px u ∧ B E u t ∧ va_F A st t
section Runs
variable {p : Program} {l : Launch} {e : Env} {R : Room} {s : State} {m : MethodId} {args : Array Value} {below : List Frame} {meth : Method} {c : Code} {H : Heap} {locs : List Loc} {cells slots : Nat}
variable {y : MethodName} {bytes cc : ByteArray} {maxL nL mc ms n index : Nat} {ret : Option FieldType} {ws : List Cond} {rm : Room} {Pc : Array Value → State → Prop} {Qc : Array Value → State → Outcome → State → Prop} {XC : String → State → State → Prop} {free : Addr → Prop} {Ts : List Cond} {own C : String} {b : Addr} {As rest : List Value} {g : JFrame}
theorem vx_callBack (cb : CallB R s args own index y bytes maxL ret ws rm mc ms n) (hM : vx_Met l y ws rm Pc Qc XC mc ms free) (hbl : FrameBlind Pc) : vx_Back l R p e below s args y 3 8 (PreOf R mc ms Pc) (PostOf Qc mc ms free) (vx_Post XC mc ms free) := by
  obtain ⟨hrc, hrs, hfr, hlo, hws, hcw, -, hini, -⟩ := cb
  exact vx_back (bytes := bytes) (maxL := maxL) (ret := ret) hM hbl hrc hrs hfr hlo hws hcw (fun a' U hW => word_at hW (Or.inl (by first | rfl | simp [Cond.onTables, Cond.keeps, Cond.steady])) hini)
theorem vx_runV (S : CallFix p m c cc nL s args Ts own) (hM : vx_Met l y ws rm Pc Qc XC mc ms free) (cw : CallW R s args own C index y bytes maxL ret ws rm mc ms n) (hp : PreV s H C b Pc As)
    (hg : g.method = m) (hn : As.length = n) (hsize : g.locals.size = nL) (hstack : g.stack = As.reverse ++ .ref b :: rest) (hW : 2 * g.monitorRoom + (rest.map fun v => v.category).sum ≤ 8) (hdg : decode cc g.pc = .ok (.invokevirtual index, 3)) (hf : cells + mc ≤ R.cells ∧ slots + ms ≤ R.slots) :
    vx_Run p l e R s m args below meth c H locs cells slots mc ms g rest (Qc (Value.ref b :: As).toArray) XC free := by
  have hK : vx_Back l R p e below s args y 3 8 (PreOf R mc ms Pc) (PostOf Qc mc ms free) (vx_Post XC mc ms free) := vx_callBack cw.1 hM hp.1
  obtain ⟨⟨-, -, -, -, -, -, hcode, -, hy, hlen, hl⟩, hin, hse⟩ := cw
  obtain ⟨hx, hb, hml, ho, -⟩ := S
  obtain ⟨-, ⟨cellB, hcB, hoB, hclB⟩, hPc⟩ := hp
  intro T hT X
  rcases vx_callV X hx (C := C) (bytes := bytes) (maxL := maxL) (ret := ret) ho hl hin hse hcode hy hK (by rw [hT]; exact hcB) hoB hclB hg (hsize.trans hml.symm) (argsL := As) (rest := rest) (fun sig h => hn.trans (hlen sig h)) hstack hW (by rw [hb]; exact hdg)
    (fun vm₁ hW₁ => ⟨hf.1, hf.2, hPc (T.setVm vm₁) hT hW₁⟩) with ⟨v, vm₁, ⟨U', l2, c2, s2⟩, hW₁, X', ⟨g', mk, t, L, e1, e2, hq, h1, hL, h2, h3⟩, st⟩ | ⟨q, vm₁, ⟨U', l2, c2, s2⟩, hW₁, X', ⟨g', mk, t, L, E, ce, e1, e2, hq, hce, hcv, hcl, h1, hL, h2, h3⟩, st⟩
  · dsimp only [Pt.U, Pt.locs, Pt.cells, Pt.slots] at X' e1 e2 h1 h2 h3 st
    subst h1; subst h2; subst h3
    exact Or.inl ⟨v, (T.setVm vm₁).calling g' mk (Value.ref b :: As).toArray, t, U', L, hT, X', hL, e1, e2, hq, st⟩
  · dsimp only [Pt.U, Pt.locs, Pt.cells, Pt.slots] at X' e1 e2 h1 h2 h3 st hcl
    subst h1; subst h2; subst h3
    exact Or.inr ⟨q, (T.setVm vm₁).calling g' mk (Value.ref b :: As).toArray, t, U', L, E, ce, hT, X', hL, e1, e2, hq, hce, hcv, vx_cls hW₁ hcl, st⟩
theorem vx_runS (S : CallFix p m c cc nL s args Ts own) (hM : vx_Met l y ws rm Pc Qc XC mc ms free) (cw : CallB R s args own index y bytes maxL ret ws rm mc ms n ∧ (Cond.static y).before args s = true) (hp : PreS s H Pc As)
    (hg : g.method = m) (hn : As.length = n) (hsize : g.locals.size = nL) (hstack : g.stack = As.reverse ++ rest) (hW : 2 * g.monitorRoom + (rest.map fun v => v.category).sum ≤ 8) (hdg : decode cc g.pc = .ok (.invokestatic index, 3)) (hf : cells + mc ≤ R.cells ∧ slots + ms ≤ R.slots) :
    vx_Run p l e R s m args below meth c H locs cells slots mc ms g rest (Qc As.toArray) XC free := by
  have hK : vx_Back l R p e below s args y 3 8 (PreOf R mc ms Pc) (PostOf Qc mc ms free) (vx_Post XC mc ms free) := vx_callBack cw.1 hM hp.1
  obtain ⟨⟨-, -, -, -, -, -, hcode, hini, hy, hlen, hl⟩, hstt⟩ := cw
  obtain ⟨hx, hb, hml, ho, -⟩ := S
  intro T hT X
  rcases vx_callS X hx (bytes := bytes) (maxL := maxL) (ret := ret) ho hl hstt hini hcode hy hK hg (hsize.trans hml.symm) (argsL := As) (rest := rest) (fun sig h => hn.trans (hlen sig h)) hstack hW (by rw [hb]; exact hdg)
    (fun vm₁ hW₁ => ⟨hf.1, hf.2, hp.2 (T.setVm vm₁) hT hW₁⟩) with ⟨v, vm₁, ⟨U', l2, c2, s2⟩, hW₁, X', ⟨g', mk, t, L, e1, e2, hq, h1, hL, h2, h3⟩, st⟩ | ⟨q, vm₁, ⟨U', l2, c2, s2⟩, hW₁, X', ⟨g', mk, t, L, E, ce, e1, e2, hq, hce, hcv, hcl, h1, hL, h2, h3⟩, st⟩
  · dsimp only [Pt.U, Pt.locs, Pt.cells, Pt.slots] at X' e1 e2 h1 h2 h3 st
    subst h1; subst h2; subst h3
    exact Or.inl ⟨v, (T.setVm vm₁).calling g' mk As.toArray, t, U', L, hT, X', hL, e1, e2, hq, st⟩
  · dsimp only [Pt.U, Pt.locs, Pt.cells, Pt.slots] at X' e1 e2 h1 h2 h3 st hcl
    subst h1; subst h2; subst h3
    exact Or.inr ⟨q, (T.setVm vm₁).calling g' mk As.toArray, t, U', L, E, ce, hT, X', hL, e1, e2, hq, hce, hcv, vx_cls hW₁ hcl, st⟩
end Runs
section Rows
variable {p : Program} {l : Launch} {e : Env} {R : Room} {s : State} {m : MethodId} {args : Array Value} {below : List Frame} {meth : Method} {c : Code} {H : Heap} {locs : List Loc} {cells slots : Nat} {Q : State → Prop}
variable {mc ms : Nat} {free : Addr → Prop} {A0 A1 : Nat → Prop} {H0 : Heap} {a : Array Value} {pc : Nat} {ls : Array Slot} {st0 rest : List Value}
theorem vx_keep {st₀ t T' : State} {L : List Loc} (h0 : st₀.heap = H) (e1 : T'.heap = t.heap) (hS : va_S A0 H0 H locs) (hA : ∀ q, q < H.size → A1 q → A0 q) (hf : ∀ q, free q → A0 q) (hL : ∀ q ∈ L, free q.base) (hF : va_F A1 st₀ t) :
    H.size ≤ T'.heap.size ∧ (∀ q : Nat, q < H.size → ¬ A1 q → T'.heap[q]? = H[q]?) ∧ va_S A0 H0 T'.heap (locs ++ L) := by
  obtain ⟨hz, hk⟩ := hF
  rw [h0] at hz hk
  exact ⟨by rw [e1]; exact hz, fun q h1 h2 => by rw [e1]; exact hk q h1 h2,
    ⟨Nat.le_trans hS.1 (by rw [e1]; exact hz), fun q h1 h2 => by rw [e1, hk q (Nat.lt_of_lt_of_le h1 hS.1) (fun z => h2 (hA q (Nat.lt_of_lt_of_le h1 hS.1) z))]; exact hS.2.1 q h1 h2, fun q hq => by
      rcases List.mem_append.mp hq with h | h
      · exact hS.2.2 q h
      · exact hf _ (hL q h)⟩⟩
theorem vx_calli {S SX : Type} {post : Int32 → S → Prop} {px : SX → Prop} {B : S → State → Prop} {BX : String → SX → State → Prop} {AX : Nat → Prop} (hr : vx_Run p l e R s m args below meth c H locs cells slots mc ms (F0 m pc ls st0) rest (va_Qi post B A1 a) (vx_X px BX AX) free) (hS : va_S A0 H0 H locs) (hA : ∀ q, q < H.size → A1 q → A0 q) (hf : ∀ q, free q → A0 q) (hAX : ∀ q, q < H.size → AX q → A0 q)
    (kx : ∀ (E : String) (ce : Cell) (q9 : Addr) (u : SX) (t : State) (H1 : Heap) (locs1 : List Loc), t.heap = H1 → s.vm.Alike t.vm → px u → BX E u t → H.size ≤ H1.size → (∀ q : Nat, q < H.size → ¬ AX q → H1[q]? = H[q]?) → va_S A0 H0 H1 locs1 → H1[q9]? = some ce → ce.vm = .none → s.vm.findClass E = some ce.cls → vx_W p l e R s m args below meth c H1 locs1 (cells + mc) (slots + ms) Q (F0 m pc ls rest) q9)
    (kk : ∀ (r : Int32) (u : S) (t : State) (H1 : Heap) (locs1 : List Loc), t.heap = H1 → s.vm.Alike t.vm → post r u → B u t → H.size ≤ H1.size → (∀ q : Nat, q < H.size → ¬ A1 q → H1[q]? = H[q]?) → va_S A0 H0 H1 locs1 → W p l e R s m args below meth c H1 locs1 (cells + mc) (slots + ms) Q (F0 m (pc + 3) ls (.int r :: rest))) : W p l e R s m args below meth c H locs cells slots Q (F0 m pc ls st0) := by
  intro T hT X
  rcases hr T hT X with ⟨v, st₀, t, T', L, h0, X', hL, e1, e2, ⟨⟨r, u, hv, hp, hb⟩, hF⟩, st⟩ | ⟨q, st₀, t, T', L, E, ce, h0, X', hL, e1, e2, ⟨u, hp, hb, hF⟩, hce, hcv, hcl, st⟩
  · cases hv
    obtain ⟨k1, k2, k3⟩ := vx_keep h0 e1 hS hA hf hL hF
    obtain ⟨t2, a1, b1⟩ := kk r u t T'.heap (locs ++ L) e1.symm (by rw [← e2]; exact X'.warmed.alike) hp hb k1 k2 k3 T' rfl X'
    exact ⟨t2, st t2 a1, b1⟩
  · obtain ⟨k1, k2, k3⟩ := vx_keep h0 e1 hS hAX hf hL hF
    obtain ⟨t2, a1, b1⟩ := kx E ce q u t T'.heap (locs ++ L) e1.symm (by rw [← e2]; exact X'.warmed.alike) hp hb k1 k2 k3 (by rw [e1]; exact hce) hcv hcl T' rfl X'
    exact ⟨t2, st.trans a1, b1⟩
theorem vx_calll {S SX : Type} {post : Int64 → S → Prop} {px : SX → Prop} {B : S → State → Prop} {BX : String → SX → State → Prop} {AX : Nat → Prop} (hr : vx_Run p l e R s m args below meth c H locs cells slots mc ms (F0 m pc ls st0) rest (va_Ql post B A1 a) (vx_X px BX AX) free) (hS : va_S A0 H0 H locs) (hA : ∀ q, q < H.size → A1 q → A0 q) (hf : ∀ q, free q → A0 q) (hAX : ∀ q, q < H.size → AX q → A0 q)
    (kx : ∀ (E : String) (ce : Cell) (q9 : Addr) (u : SX) (t : State) (H1 : Heap) (locs1 : List Loc), t.heap = H1 → s.vm.Alike t.vm → px u → BX E u t → H.size ≤ H1.size → (∀ q : Nat, q < H.size → ¬ AX q → H1[q]? = H[q]?) → va_S A0 H0 H1 locs1 → H1[q9]? = some ce → ce.vm = .none → s.vm.findClass E = some ce.cls → vx_W p l e R s m args below meth c H1 locs1 (cells + mc) (slots + ms) Q (F0 m pc ls rest) q9)
    (kk : ∀ (r : Int64) (u : S) (t : State) (H1 : Heap) (locs1 : List Loc), t.heap = H1 → s.vm.Alike t.vm → post r u → B u t → H.size ≤ H1.size → (∀ q : Nat, q < H.size → ¬ A1 q → H1[q]? = H[q]?) → va_S A0 H0 H1 locs1 → W p l e R s m args below meth c H1 locs1 (cells + mc) (slots + ms) Q (F0 m (pc + 3) ls (.long r :: rest))) : W p l e R s m args below meth c H locs cells slots Q (F0 m pc ls st0) := by
  intro T hT X
  rcases hr T hT X with ⟨v, st₀, t, T', L, h0, X', hL, e1, e2, ⟨⟨r, u, hv, hp, hb⟩, hF⟩, st⟩ | ⟨q, st₀, t, T', L, E, ce, h0, X', hL, e1, e2, ⟨u, hp, hb, hF⟩, hce, hcv, hcl, st⟩
  · cases hv
    obtain ⟨k1, k2, k3⟩ := vx_keep h0 e1 hS hA hf hL hF
    obtain ⟨t2, a1, b1⟩ := kk r u t T'.heap (locs ++ L) e1.symm (by rw [← e2]; exact X'.warmed.alike) hp hb k1 k2 k3 T' rfl X'
    exact ⟨t2, st t2 a1, b1⟩
  · obtain ⟨k1, k2, k3⟩ := vx_keep h0 e1 hS hAX hf hL hF
    obtain ⟨t2, a1, b1⟩ := kx E ce q u t T'.heap (locs ++ L) e1.symm (by rw [← e2]; exact X'.warmed.alike) hp hb k1 k2 k3 (by rw [e1]; exact hce) hcv hcl T' rfl X'
    exact ⟨t2, st.trans a1, b1⟩
theorem vx_callf {S SX : Type} {post : UInt32 → S → Prop} {px : SX → Prop} {B : S → State → Prop} {BX : String → SX → State → Prop} {AX : Nat → Prop} (hr : vx_Run p l e R s m args below meth c H locs cells slots mc ms (F0 m pc ls st0) rest (va_Qf post B A1 a) (vx_X px BX AX) free) (hS : va_S A0 H0 H locs) (hA : ∀ q, q < H.size → A1 q → A0 q) (hf : ∀ q, free q → A0 q) (hAX : ∀ q, q < H.size → AX q → A0 q)
    (kx : ∀ (E : String) (ce : Cell) (q9 : Addr) (u : SX) (t : State) (H1 : Heap) (locs1 : List Loc), t.heap = H1 → s.vm.Alike t.vm → px u → BX E u t → H.size ≤ H1.size → (∀ q : Nat, q < H.size → ¬ AX q → H1[q]? = H[q]?) → va_S A0 H0 H1 locs1 → H1[q9]? = some ce → ce.vm = .none → s.vm.findClass E = some ce.cls → vx_W p l e R s m args below meth c H1 locs1 (cells + mc) (slots + ms) Q (F0 m pc ls rest) q9)
    (kk : ∀ (r : UInt32) (u : S) (t : State) (H1 : Heap) (locs1 : List Loc), t.heap = H1 → s.vm.Alike t.vm → post r u → B u t → H.size ≤ H1.size → (∀ q : Nat, q < H.size → ¬ A1 q → H1[q]? = H[q]?) → va_S A0 H0 H1 locs1 → W p l e R s m args below meth c H1 locs1 (cells + mc) (slots + ms) Q (F0 m (pc + 3) ls (.float r :: rest))) : W p l e R s m args below meth c H locs cells slots Q (F0 m pc ls st0) := by
  intro T hT X
  rcases hr T hT X with ⟨v, st₀, t, T', L, h0, X', hL, e1, e2, ⟨⟨r, u, hv, hp, hb⟩, hF⟩, st⟩ | ⟨q, st₀, t, T', L, E, ce, h0, X', hL, e1, e2, ⟨u, hp, hb, hF⟩, hce, hcv, hcl, st⟩
  · cases hv
    obtain ⟨k1, k2, k3⟩ := vx_keep h0 e1 hS hA hf hL hF
    obtain ⟨t2, a1, b1⟩ := kk r u t T'.heap (locs ++ L) e1.symm (by rw [← e2]; exact X'.warmed.alike) hp hb k1 k2 k3 T' rfl X'
    exact ⟨t2, st t2 a1, b1⟩
  · obtain ⟨k1, k2, k3⟩ := vx_keep h0 e1 hS hAX hf hL hF
    obtain ⟨t2, a1, b1⟩ := kx E ce q u t T'.heap (locs ++ L) e1.symm (by rw [← e2]; exact X'.warmed.alike) hp hb k1 k2 k3 (by rw [e1]; exact hce) hcv hcl T' rfl X'
    exact ⟨t2, st.trans a1, b1⟩
theorem vx_calld {S SX : Type} {post : UInt64 → S → Prop} {px : SX → Prop} {B : S → State → Prop} {BX : String → SX → State → Prop} {AX : Nat → Prop} (hr : vx_Run p l e R s m args below meth c H locs cells slots mc ms (F0 m pc ls st0) rest (va_Qd post B A1 a) (vx_X px BX AX) free) (hS : va_S A0 H0 H locs) (hA : ∀ q, q < H.size → A1 q → A0 q) (hf : ∀ q, free q → A0 q) (hAX : ∀ q, q < H.size → AX q → A0 q)
    (kx : ∀ (E : String) (ce : Cell) (q9 : Addr) (u : SX) (t : State) (H1 : Heap) (locs1 : List Loc), t.heap = H1 → s.vm.Alike t.vm → px u → BX E u t → H.size ≤ H1.size → (∀ q : Nat, q < H.size → ¬ AX q → H1[q]? = H[q]?) → va_S A0 H0 H1 locs1 → H1[q9]? = some ce → ce.vm = .none → s.vm.findClass E = some ce.cls → vx_W p l e R s m args below meth c H1 locs1 (cells + mc) (slots + ms) Q (F0 m pc ls rest) q9)
    (kk : ∀ (r : UInt64) (u : S) (t : State) (H1 : Heap) (locs1 : List Loc), t.heap = H1 → s.vm.Alike t.vm → post r u → B u t → H.size ≤ H1.size → (∀ q : Nat, q < H.size → ¬ A1 q → H1[q]? = H[q]?) → va_S A0 H0 H1 locs1 → W p l e R s m args below meth c H1 locs1 (cells + mc) (slots + ms) Q (F0 m (pc + 3) ls (.double r :: rest))) : W p l e R s m args below meth c H locs cells slots Q (F0 m pc ls st0) := by
  intro T hT X
  rcases hr T hT X with ⟨v, st₀, t, T', L, h0, X', hL, e1, e2, ⟨⟨r, u, hv, hp, hb⟩, hF⟩, st⟩ | ⟨q, st₀, t, T', L, E, ce, h0, X', hL, e1, e2, ⟨u, hp, hb, hF⟩, hce, hcv, hcl, st⟩
  · cases hv
    obtain ⟨k1, k2, k3⟩ := vx_keep h0 e1 hS hA hf hL hF
    obtain ⟨t2, a1, b1⟩ := kk r u t T'.heap (locs ++ L) e1.symm (by rw [← e2]; exact X'.warmed.alike) hp hb k1 k2 k3 T' rfl X'
    exact ⟨t2, st t2 a1, b1⟩
  · obtain ⟨k1, k2, k3⟩ := vx_keep h0 e1 hS hAX hf hL hF
    obtain ⟨t2, a1, b1⟩ := kx E ce q u t T'.heap (locs ++ L) e1.symm (by rw [← e2]; exact X'.warmed.alike) hp hb k1 k2 k3 (by rw [e1]; exact hce) hcv hcl T' rfl X'
    exact ⟨t2, st.trans a1, b1⟩
theorem vx_callv {S SX : Type} {post : S → Prop} {px : SX → Prop} {B : S → State → Prop} {BX : String → SX → State → Prop} {AX : Nat → Prop} (hr : vx_Run p l e R s m args below meth c H locs cells slots mc ms (F0 m pc ls st0) rest (va_Qv post B A1 a) (vx_X px BX AX) free) (hS : va_S A0 H0 H locs) (hA : ∀ q, q < H.size → A1 q → A0 q) (hf : ∀ q, free q → A0 q) (hAX : ∀ q, q < H.size → AX q → A0 q)
    (kx : ∀ (E : String) (ce : Cell) (q9 : Addr) (u : SX) (t : State) (H1 : Heap) (locs1 : List Loc), t.heap = H1 → s.vm.Alike t.vm → px u → BX E u t → H.size ≤ H1.size → (∀ q : Nat, q < H.size → ¬ AX q → H1[q]? = H[q]?) → va_S A0 H0 H1 locs1 → H1[q9]? = some ce → ce.vm = .none → s.vm.findClass E = some ce.cls → vx_W p l e R s m args below meth c H1 locs1 (cells + mc) (slots + ms) Q (F0 m pc ls rest) q9)
    (kk : ∀ (u : S) (t : State) (H1 : Heap) (locs1 : List Loc), t.heap = H1 → s.vm.Alike t.vm → post u → B u t → H.size ≤ H1.size → (∀ q : Nat, q < H.size → ¬ A1 q → H1[q]? = H[q]?) → va_S A0 H0 H1 locs1 → W p l e R s m args below meth c H1 locs1 (cells + mc) (slots + ms) Q (F0 m (pc + 3) ls (rest))) : W p l e R s m args below meth c H locs cells slots Q (F0 m pc ls st0) := by
  intro T hT X
  rcases hr T hT X with ⟨v, st₀, t, T', L, h0, X', hL, e1, e2, ⟨⟨u, hv, hp, hb⟩, hF⟩, st⟩ | ⟨q, st₀, t, T', L, E, ce, h0, X', hL, e1, e2, ⟨u, hp, hb, hF⟩, hce, hcv, hcl, st⟩
  · cases hv
    obtain ⟨k1, k2, k3⟩ := vx_keep h0 e1 hS hA hf hL hF
    obtain ⟨t2, a1, b1⟩ := kk u t T'.heap (locs ++ L) e1.symm (by rw [← e2]; exact X'.warmed.alike) hp hb k1 k2 k3 T' rfl X'
    exact ⟨t2, st t2 a1, b1⟩
  · obtain ⟨k1, k2, k3⟩ := vx_keep h0 e1 hS hAX hf hL hF
    obtain ⟨t2, a1, b1⟩ := kx E ce q u t T'.heap (locs ++ L) e1.symm (by rw [← e2]; exact X'.warmed.alike) hp hb k1 k2 k3 (by rw [e1]; exact hce) hcv hcl T' rfl X'
    exact ⟨t2, st.trans a1, b1⟩
/-- caught by the row x of this method's table; the rows ahead don't take it -/
theorem vx_catch {own name : String} {E : String} {ce : Cell} {q : Addr} (hown : s.vm.findClass own = some m.cls) (pre : List ExceptionTableEntry) (x : ExceptionTableEntry) (suf : List ExceptionTableEntry) (hsplit : c.exceptionTable.toList = pre ++ x :: suf)
    (hpass : ∀ z ∈ pre, covers z pc = false ∨ (z.catchType ≠ 0 ∧ ∃ nm : String, (Cond.classLink own z.catchType nm).before args s = true ∧ va_Nc E nm s)) (hx : covers x pc = true) (h0 : x.catchType ≠ 0)
    (hlink : (Cond.classLink own x.catchType name).before args s = true) (hcast : (Cond.castable E name).before args s = true) (hcell : H[q]? = some ce) (hv : ce.vm = .none) (hcl : s.vm.findClass E = some ce.cls)
    (kk : W p l e R s m args below meth c H locs cells slots Q (F0 m x.handlerPc ls [.ref q])) : vx_W p l e R s m args below meth c H locs cells slots Q (F0 m pc ls rest) q := by
  intro T hT X
  have hpl : e.platform.magicAccessors = ({} : Platform).magicAccessors := by rw [X.admits.platform]
  obtain ⟨c3, c4, hc3, hc4, hasg⟩ := Cond.castable_spec hcast
  cases Option.some.inj (hc3.symm.trans hcl)
  obtain ⟨c5, hc5, hcl5⟩ := Cond.classLink_spec hown hlink e.platform hpl
  cases Option.some.inj (hc4.symm.trans hc5)
  obtain ⟨vm', X', st⟩ := X.thenCaughtThrough q (g := F0 m pc ls rest) rfl (Steps.refl _) (by rw [hT]; exact hcell) (by rw [hv]; rfl) (by obtain ⟨k9, h9, -⟩ := Vm.findClass_spec hcl; exact ⟨k9, h9⟩) pre x suf hsplit
    (fun z hz => by
      rcases hpass z hz with h | ⟨hz0, nm, hl1, hn1⟩
      · exact Or.inl h
      · obtain ⟨c6, hc6, hcl6⟩ := Cond.classLink_spec hown hl1 e.platform hpl
        obtain ⟨a8, b8, h1, h2, h3⟩ := hn1
        cases Option.some.inj (h1.symm.trans hcl)
        cases Option.some.inj (h2.symm.trans hc6)
        exact Or.inr ⟨hz0, _, hcl6, h3⟩) hx (Or.inr ⟨h0, c4, hcl5, hasg⟩)
  obtain ⟨t, a1, b1⟩ := kk (T.setVm vm') hT X'
  exact ⟨t, st.trans a1, b1⟩
end Rows
section Ends
variable {p : Program} {l : Launch} {e : Env} {R : Room} {s : State} {m : MethodId} {args : Array Value} {below : List Frame} {meth : Method} {c : Code} {H : Heap} {locs : List Loc} {cells slots : Nat} {Q : State → Prop}
variable {mc ms : Nat} {free : Addr → Prop} {A0 A1 : Nat → Prop} {H0 : Heap} {a : Array Value} {ls : Array Slot} {st0 rest : List Value}
variable {Qc : Array Value → State → Outcome → State → Prop} {XC : String → State → State → Prop}
/-- what a body that may throw owes at its end -/
def vx_MQ (below : List Frame) (Qc : Array Value → State → Outcome → State → Prop) (XC : String → State → State → Prop) (a : Array Value) (s : State) (mc ms : Nat) (free : Addr → Prop) : State → Prop := fun t =>
  ∃ o, t.status = .running ∧ Ended t below o ∧ vx_Q Qc XC mc ms free a s o t
theorem vx_ret {g : JFrame} {mc ms : Nat} (k : W p l e R s m args below meth c H locs cells slots (MQ below Qc args s mc ms free) g) : W p l e R s m args below meth c H locs cells slots (vx_MQ below Qc XC args s mc ms free) g := by
  intro T hT X
  obtain ⟨t, a1, o, b1, b2, b3, b4⟩ := k T hT X
  exact ⟨t, a1, o, b1, b2, Or.inl ⟨b3, b4⟩⟩
/-- not caught here: it goes on to the caller -/
theorem vx_widen {g : JFrame} {q : Addr} {k n : Nat} (h1 : cells ≤ k) (h2 : slots ≤ n) (kk : vx_W p l e R s m args below meth c H locs k n Q g q) : vx_W p l e R s m args below meth c H locs cells slots Q g q := fun T hT X => kk T hT (stand_widen X h1 h2)
theorem vx_out {pc : Nat} {E : String} {ce : Cell} {q : Addr} {mc ms : Nat} (hout : ∀ x ∈ c.exceptionTable.toList, covers x pc = false) (hlocks : meth.locks = false) (hcell : H[q]? = some ce) (hv : ce.vm = .none) (hcl : s.vm.findClass E = some ce.cls)
    (hx : ∀ t : State, t.heap = H → s.vm.Alike t.vm → XC E s t) (hf : ∀ z ∈ locs, free z.base) (hc : cells ≤ mc) (hs : slots ≤ ms) :
    vx_W p l e R s m args below meth c H locs cells slots (vx_MQ below Qc XC args s mc ms free) (F0 m pc ls rest) q := by
  intro T hT X
  obtain ⟨st1, hrun, hend, hW, hsm⟩ := X.leaveThrown q (g := F0 m pc ls rest) rfl rfl rfl hout hlocks
  have hcell9 : (T.setFrames (.throwing q :: below)).heap[q]? = some ce := by
    show T.heap[q]? = some ce
    rw [hT]; exact hcell
  exact ⟨_, st1, .threw q, hrun, hend, Or.inr ⟨q, rfl, E, ce, locs, hx _ hT hW.alike, hcell9, hv, hcl, hW, hsm.mono hc hs, hf⟩⟩
theorem vx_frame {U : State} {k n : Nat} (h : s.sameButNew ({ U with vm := s.vm } : State) locs k n) : s.heap.size ≤ U.heap.size ∧ ∀ q : Nat, q < s.heap.size → (∀ z ∈ locs, z.base ≠ q) → U.heap[q]? = s.heap[q]? := by
  obtain ⟨-, h2, -, -, -, h6⟩ := h
  refine ⟨h2, fun q hq hz => ?_⟩
  obtain ⟨c9, e1, e2, e3, e4⟩ := h6 q _ (Array.getElem?_eq_getElem hq)
  have hs : c9.slots = (s.heap[q]).slots := Array.ext_getElem? fun i => e4 i fun hm => hz _ hm rfl
  have h9 : c9 = s.heap[q] := by
    rw [hs] at e2
    exact e2
  have e5 : U.heap[q]? = some c9 := e1
  rw [e5, h9, Array.getElem?_eq_getElem hq]
/-- the words of a throw but the four that speak of the heap -/
def vx_no (w : Cond) : Bool := decide (w ≠ .isRef (.static Bundle.tN "UNASSIGNED_STACK" Bundle.steD)) && decide (w ≠ .isRef (.static Bundle.tN "SUPPRESSED_SENTINEL" Bundle.listD)) && decide (w ≠ .laysStatic Bundle.tN "UNASSIGNED_STACK" Bundle.steD) && decide (w ≠ .laysStatic Bundle.tN "SUPPRESSED_SENTINEL" Bundle.listD)
def vx_at0 (own : String) (ic : Nat) (X : String) (names : List String) : List Cond := (Bundle.ownAtoms0 own ic X names).filter vx_no
def vx_atS (own : String) (ic : Nat) (X : String) (names : List String) : List Cond := (Bundle.ownAtoms own ic X names).filter vx_no
/-- a word that the tables alone decide, or a good one -/
def vx_ot (w : Cond) : Bool := w.onTables || goodWord w
theorem vx_ot_at {args a' : Array Value} {s U : State} {w : Cond} (hW : s.WarmedH U.vm) (hvm : s.vm = U.vm) (hg : vx_ot w = true) (h : w.before args s = true) : w.before a' U = true := by
  simp only [vx_ot, Bool.or_eq_true] at hg
  rcases hg with hg | hg
  · exact va_tabs hg hvm h
  · exact word_at hW (good_of_word hg) h
/-- a list's words: the good ones out of the method's own list, the others by premises of their own -/
theorem vx_hat {args : Array Value} {s : State} {L B : List Cond} (h1 : ∀ w ∈ L.filter goodWord, w.before args s = true) (h2 : ∀ w ∈ L.filter (fun w => !goodWord w), w ∈ B) (h3 : ∀ w ∈ B, w.before args s = true) : ∀ w ∈ L, w.before args s = true := by
  intro w hw
  by_cases g : goodWord w = true
  · exact h1 w (List.mem_filter.mpr ⟨hw, g⟩)
  · refine h3 w (h2 w (List.mem_filter.mpr ⟨hw, ?_⟩))
    show (!goodWord w) = true
    cases hgw : goodWord w
    · rfl
    · exact absurd hgw g
theorem vx_c {args : Array Value} {s : State} {w : Cond} {B : List Cond} (h : w.before args s = true) (t : ∀ w ∈ B, w.before args s = true) : ∀ w' ∈ w :: B, w'.before args s = true := fun w' h' => (List.mem_cons.mp h').elim (fun e => by rw [e]; exact h) (t w')
theorem vx_n {args : Array Value} {s : State} : ∀ w ∈ ([] : List Cond), w.before args s = true := fun _ h => nomatch h
theorem vx_own {args : Array Value} {s : State} {L : List Cond} (h1 : ∀ w ∈ L.filter vx_no, w.before args s = true)
    (hU : (Cond.isRef (.static Bundle.tN "UNASSIGNED_STACK" Bundle.steD)).before args s = true) (hN : (Cond.isRef (.static Bundle.tN "SUPPRESSED_SENTINEL" Bundle.listD)).before args s = true)
    (lU : (Cond.laysStatic Bundle.tN "UNASSIGNED_STACK" Bundle.steD).before args s = true) (lN : (Cond.laysStatic Bundle.tN "SUPPRESSED_SENTINEL" Bundle.listD).before args s = true) : ∀ w ∈ L, w.before args s = true := by
  intro w hw
  by_cases e1 : w = .isRef (.static Bundle.tN "UNASSIGNED_STACK" Bundle.steD)
  · rw [e1]; exact hU
  · by_cases e2 : w = .isRef (.static Bundle.tN "SUPPRESSED_SENTINEL" Bundle.listD)
    · rw [e2]; exact hN
    · by_cases e3 : w = .laysStatic Bundle.tN "UNASSIGNED_STACK" Bundle.steD
      · rw [e3]; exact lU
      · by_cases e4 : w = .laysStatic Bundle.tN "SUPPRESSED_SENTINEL" Bundle.listD
        · rw [e4]; exact lN
        · exact h1 w (List.mem_filter.mpr ⟨hw, by unfold vx_no; rw [decide_eq_true e1, decide_eq_true e2, decide_eq_true e3, decide_eq_true e4]; rfl⟩)
/-- where a static field lies, its class's statics cell in H -/
def vx_L (C n d : String) (A : Nat → Prop) (U : State) (H : Heap) : Prop := ∃ (c : ClassId) (k : Class) (i : Nat) (f : Field) (a : Nat) (cell : Cell), U.vm.findClass C = some c ∧ U.fieldFound? C n d = some (c, k, i, f) ∧ f.isStatic = true ∧ k.statics = some a ∧ H[a]? = some cell ∧ cell.vm.isStatics = true ∧ cell.cls = c ∧ f.slot < cell.slots.size ∧ k.staticTypes[f.slot]? = some f.type ∧ ¬ A a
theorem vx_L.moved {C n d : String} {A : Nat → Prop} {u U : State} {H : Heap} (hvm : u.vm.Alike U.vm) (h : vx_L C n d A u H) : vx_L C n d A U H := by
  obtain ⟨c, k, i, f, a, cell, h1, h2, h3, h4, h5, h6, h7, h8, h9, h10⟩ := h
  obtain ⟨k', hi', he⟩ := State.fieldFound?_setVm hvm h2
  exact ⟨c, k', i, f, a, cell, by rw [hvm.findClass]; exact h1, hi', h3, by rw [he]; exact h4, h5, h6, h7, h8, by rw [he]; exact h9, h10⟩
theorem vx_L.kept {C n d : String} {A : Nat → Prop} {U : State} {H H1 : Heap} (h : vx_L C n d A U H) (hq : ∀ a : Nat, a < H.size → ¬ A a → H1[a]? = H[a]?) : vx_L C n d A U H1 := by
  obtain ⟨c, k, i, f, a, cell, h1, h2, h3, h4, h5, h6, h7, h8, h9, h10⟩ := h
  exact ⟨c, k, i, f, a, cell, h1, h2, h3, h4, by rw [hq a (Array.getElem?_eq_some_iff.mp h5).1 h10]; exact h5, h6, h7, h8, h9, h10⟩
theorem vx_L.narrow {C n d : String} {A B : Nat → Prop} {U : State} {H : Heap} (h : vx_L C n d A U H) (hAB : ∀ q, B q → A q) : vx_L C n d B U H := by
  obtain ⟨c, k, i, f, a, cell, h1, h2, h3, h4, h5, h6, h7, h8, h9, h10⟩ := h
  exact ⟨c, k, i, f, a, cell, h1, h2, h3, h4, h5, h6, h7, h8, h9, fun z => h10 (hAB _ z)⟩
theorem vx_L.word {C n d : String} {A : Nat → Prop} {s : State} {args : Array Value} (h : vx_L C n d A s s.heap) : (Cond.laysStatic C n d).before args s = true := by
  obtain ⟨c, k, i, f, a, cell, h1, h2, h3, h4, h5, h6, h7, h8, h9, -⟩ := h
  show (Cond.laysStatic C n d).holds args s none s [] = true
  exact Cond.laysStatic_of h1 h2 h3 h4 h5 h6 h7 h8 h9
/-- .. and what it holds: null or some reference -/
def vx_Zq (C n d : String) (A : Nat → Prop) (U : State) (H : Heap) : Prop := va_Zq C n d A U H ∧ vx_L C n d A U H
theorem vx_Zq.moved {C n d : String} {A : Nat → Prop} {u U : State} {H : Heap} (hvm : u.vm.Alike U.vm) (h : vx_Zq C n d A u H) : vx_Zq C n d A U H := ⟨va_Zq.moved hvm h.1, vx_L.moved hvm h.2⟩
theorem vx_Zq.kept {C n d : String} {A : Nat → Prop} {U : State} {H H1 : Heap} (h : vx_Zq C n d A U H) (hq : ∀ a : Nat, a < H.size → ¬ A a → H1[a]? = H[a]?) : vx_Zq C n d A U H1 := ⟨va_Zq.kept h.1 hq, vx_L.kept h.2 hq⟩
theorem vx_Zq.narrow {C n d : String} {A B : Nat → Prop} {U : State} {H : Heap} (h : vx_Zq C n d A U H) (hAB : ∀ q, B q → A q) : vx_Zq C n d B U H := ⟨va_Zq.narrow h.1 hAB, vx_L.narrow h.2 hAB⟩
theorem vx_Zqof {args : Array Value} {s : State} {C n d : String} {A : Nat → Prop} (hl : (Cond.laysStatic C n d).before args s = true) (hini : (Cond.initialized C).before args s = true) (h : (Cond.isRef (.static C n d)).before args s = true) (hA : ∀ a : Nat, a < s.heap.size → ¬ A a) : vx_Zq C n d A s s.heap := by
  refine ⟨va_Zqof hl hini h hA, ?_⟩
  obtain ⟨c, k, i, f, a, cell, h1, h2, h3, h4, h5, h6, h7, h8, h9⟩ := Cond.laysStatic_spec hl
  exact ⟨c, k, i, f, a, cell, h1, h2, h3, h4, h5, h6, h7, h8, h9, hA a (Array.getElem?_eq_some_iff.mp h5).1⟩
theorem vx_isRef {C n d : String} {v : Value} {A : Nat → Prop} {s : State} {args : Array Value} (h : va_Z C n d v A s s.heap) (hv : v.isRef = true) : (Cond.isRef (.static C n d)).before args s = true := by
  obtain ⟨cf, kf, fi, f, a, cell, h1, h2, h3, h4, h5, h6, h7, -⟩ := h
  have he : (Term.static C n d).eval args s none [] s = some v := by
    simp [Term.eval, State.fieldNamed?, h1, h2, h4, h5, h6, h7]
  simp only [Cond.before, Cond.holds, Cond.value, he]
  cases v <;> simp_all [Value.isRef]
theorem vx_isRefq {C n d : String} {A : Nat → Prop} {s : State} {args : Array Value} (h : va_Zq C n d A s s.heap) : (Cond.isRef (.static C n d)).before args s = true := by
  rcases h with h | ⟨t, h⟩
  · exact vx_isRef h rfl
  · exact vx_isRef h rfl
/-- the same frame, seen from here: as if the method were called anew in this heap -/
theorem vx_rebase {T : State} (X : Stand p l e R s m args below meth c T locs cells slots) {R' : Room} (hf : R'.frames ≤ R.frames) (hl : R'.locals ≤ R.locals) (hc : cells + R'.cells ≤ R.cells) (hs : slots + R'.slots ≤ R.slots) :
    Stand p l e R' ((T.setVm s.vm).setFrames (.invoking m args :: below)) m args below meth c T [] 0 0 := by
  have htop : (T.setVm s.vm).topJava?.isSome := X.here.top
  have hF : ((T.setVm s.vm).setFrames (.invoking m args :: below)).frames = .invoking m args :: below := State.frames_setFrames _ (State.cur_lt_of_top htop)
  obtain ⟨g₀, hg0⟩ := Option.isSome_iff_exists.mp htop
  obtain ⟨r, hr⟩ := State.topJava?_eq_some.mp hg0
  have hl9 : e.platform.stackLimits (T.setVm s.vm).me = e.platform.stackLimits s.me := X.limits
  have hb9 : (T.setVm s.vm).me.stackBytes = s.me.stackBytes := X.bytes
  refine ⟨X.admits, X.cas, X.clock, hF, ?_, X.hears, X.method, X.code, X.here, X.tail, X.warmed, ?_, ?_, ?_⟩
  · have h := X.room
    have hU : ((T.setVm s.vm).setFrames (.invoking m args :: below)).localsInUse = s.localsInUse := by
      rw [State.localsInUse_invoking hF (meth := meth) (c := c) X.method X.code, State.localsInUse_invoking X.frames X.method X.code]
    simp only [State.hasRoom, Bool.and_eq_true, decide_eq_true_eq] at h ⊢
    obtain ⟨⟨⟨⟨h1, h2, h3, h4, h5, h6⟩, h7⟩, h8⟩, h9⟩ := h
    rw [X.frames, List.length_cons] at h2 h3
    have q1 := X.heapSize
    have q2 := X.used
    simp only [hF, hU, List.length_cons, State.stackLimits_setFrames, State.stackBytes_setFrames, hl9, hb9]
    refine ⟨⟨⟨⟨by omega, by omega, by omega, by omega, by omega, h6⟩, ?_⟩, ?_⟩, X.book⟩
    · show T.heap.size + R'.cells ≤ e.platform.maxCells
      omega
    · show T.slotsUsed + R'.slots ≤ e.platform.maxSlots
      omega
  · rw [State.stackLimits_setFrames]; rfl
  · rw [State.stackBytes_setFrames]; rfl
  · refine ⟨?_, Nat.le_refl _, Nat.le_refl _, ?_, ?_, fun a c9 h9 => ⟨c9, h9, rfl, rfl, fun _ _ => rfl⟩⟩
    · obtain ⟨t, ht, -⟩ := State.frames_cons hr
      show T.setVm s.vm = { ((T.setVm s.vm).setFrames (.invoking m args :: below)).setFrames (T.setVm s.vm).frames with heap := T.heap, slotsUsed := T.slotsUsed }
      rw [State.setFrames_setFrames, State.setFrames_self ht]
      rfl
    · show T.slotsUsed = T.slotsUsed + ((T.heap.toList.drop T.heap.size).map (·.slots.size)).sum
      rw [List.drop_eq_nil_of_le (Nat.le_of_eq Array.length_toList)]
      rfl
    · show ((T.heap.toList.drop T.heap.size).map (·.slots.size)).sum ≤ 0
      rw [List.drop_eq_nil_of_le (Nat.le_of_eq Array.length_toList)]
      exact Nat.le_refl _
/-- 'throw new E()': new; dup; invokespecial; athrow -/
theorem vx_throw0 {cc : ByteArray} {pc : Nat} (hexec : p.tables.exec = Jvm.exec) (hb : c.code = cc) (hl : l.stackTraces = false) {own cls : String} {names : List String} {ik ic mc ms : Nat} {A : Nat → Prop}
    (hown : s.vm.findClass own = some m.cls) (hcls : Bundle.fit cls = true) (hnames : ∀ n ∈ names, Bundle.fit n = true)
    (hk : (Cond.classLink own ik cls).before args s = true) (hini : (Cond.initialized cls).before args s = true) (hat : ∀ w ∈ vx_at0 own ic cls names, w.before args s = true)
    (hgood : ∀ w ∈ Cond.classLink own ik cls :: Cond.initialized cls :: vx_at0 own ic cls names, vx_ot w = true)
    (hU : vx_Zq Bundle.tN "UNASSIGNED_STACK" Bundle.steD A s s.heap) (hN : vx_Zq Bundle.tN "SUPPRESSED_SENTINEL" Bundle.listD A s s.heap) (hS : va_S A s.heap H locs) (hsize : ls.size = c.maxLocals)
    (d0 : decode cc pc = .ok (.new ik, 3)) (d3 : decode cc (pc + 3) = .ok (.dup, 1)) (d4 : decode cc (pc + 4) = .ok (.invokespecial ic, 3)) (d7 : decode cc (pc + 7) = .ok (.athrow, 1))
    (hout : ∀ x ∈ c.exceptionTable.toList, covers x (pc + 7) = false)
    (hRframes : names.length + 3 < R.frames) (hRlocals : (rest.map fun v => v.category).sum + (13 * (names.length + 1) + 42) ≤ R.locals) (hRcells : cells + 1 ≤ R.cells) (hRslots : slots + 6 ≤ R.slots) (hlocks : meth.locks = false)
    (hx : ∀ t : State, s.vm.Alike t.vm → H.size ≤ t.heap.size → (∀ q : Nat, q < H.size → t.heap[q]? = H[q]?) → XC cls s t)
    (hf : ∀ z ∈ locs, free z.base) (hc : cells + 1 ≤ mc) (hs : slots + 6 ≤ ms) :
    W p l e R s m args below meth c H locs cells slots (vx_MQ below Qc XC args s mc ms free) (F0 m pc ls rest) := by
  intro T hT X
  have htr : e.platform.stackTraces = false := (show e.platform.stackTraces = l.stackTraces by rw [X.admits.platform]).trans hl
  have Y := vx_rebase X (R' := { frames := R.frames, locals := R.locals, cells := 1, slots := 6 }) (Nat.le_refl _) (Nat.le_refl _) hRcells hRslots
  obtain ⟨s', hA⟩ : ∃ z, z = (T.setVm s.vm).setFrames (.invoking m args :: below) := ⟨_, rfl⟩
  rw [← hA] at Y
  have hvm : s'.vm = s.vm := by rw [hA]; rfl
  have hhp : s'.heap = H := by rw [hA]; exact hT
  have hW0 : s.WarmedH s'.vm := by rw [hvm]; exact State.WarmedH.refl s
  have hat' : ∀ w ∈ vx_at0 own ic cls names, w.before args s' = true := fun w hw => vx_ot_at hW0 hvm.symm (hgood w (List.mem_cons_of_mem _ (List.mem_cons_of_mem _ hw))) (hat w hw)
  have hk' : (Cond.classLink own ik cls).before args s' = true := vx_ot_at hW0 hvm.symm (hgood _ List.mem_cons_self) hk
  have hini' : (Cond.initialized cls).before args s' = true := vx_ot_at hW0 hvm.symm (hgood _ (List.mem_cons_of_mem _ List.mem_cons_self)) hini
  have hU' : vx_Zq Bundle.tN "UNASSIGNED_STACK" Bundle.steD A s' s'.heap := by rw [hhp]; exact vx_Zq.moved hW0.alike (hU.kept hS.2.1)
  have hN' : vx_Zq Bundle.tN "SUPPRESSED_SENTINEL" Bundle.listD A s' s'.heap := by rw [hhp]; exact vx_Zq.moved hW0.alike (hN.kept hS.2.1)
  have h : ∀ w ∈ Bundle.ownAtoms0 own ic cls names, w.before args s' = true := vx_own hat' (vx_isRefq hU'.1) (vx_isRefq hN'.1) hU'.2.word hN'.2.word
  have hown' : s'.vm.findClass own = some m.cls := by rw [hvm]; exact hown
  have hins : (Cond.instantiable cls 6).before args s' = true := h _ (by simp [Bundle.ownAtoms0])
  obtain ⟨vm₁, cX, kX, hfX, hkX, -, -, X₁, st1⟩ := Y.newCold hexec (own := own) (C := cls) (index := ik) (n := 6) hown' hk' hins hini'
    (g := F0 m pc ls rest) rfl (by rw [hb]; exact d0) (Nat.le_refl _) (Nat.le_refl _)
  generalize hT1 : (T.setVm vm₁).pushCell { cls := cX, slots := kX.instanceTypes.map defaultValue, vm := .none } = T1 at X₁ st1
  have hcat : (Value.ref T.heap.size).category = 1 := rfl
  have hcellA : T1.heap[T.heap.size]? = some (freshCell cX kX) := by rw [← hT1]; exact State.heap_pushCell_size _ _
  have d3' : decode c.code (pc + 3) = .ok (.dup, 1) := by rw [hb]; exact d3
  obtain ⟨U, hsteps, hrun, hend, hW, hsame, ce, hce, hO⟩ := X₁.ctorThrow0 hexec htr (own := own) (cls := cls) (names := names) (ic := ic) hown' hcls hnames h (fun x hx => nomatch hx) hfX hkX hcellA (by rw [hhp, hT]; exact Nat.le_refl _)
    (g := { method := m, pc := pc + 4, locals := ls, stack := .ref T.heap.size :: .ref T.heap.size :: rest, locked := none }) rfl hsize rfl rfl (rest := rest) rfl
    (by rw [hb]; exact d4) (by rw [hb]; exact d7) hout hRframes (by simp only [List.map_cons, List.sum_cons, hcat]; omega) hlocks
  obtain ⟨f1, f2⟩ := vx_frame hsame
  rw [hhp] at f1 f2
  have hWs : s.WarmedH U.vm := State.WarmedH.trans hW0 hW
  have hcl : s.vm.findClass cls = some ce.cls := by
    have h9 := hO.cls
    rw [hvm] at h9
    exact h9
  have hall : s.sameButNew ({ U with vm := s.vm } : State) locs mc ms := by
    subst hA
    obtain ⟨e1, e2⟩ := hsame
    rw [State.setFrames_setFrames] at e1
    have h2 : (T.setVm s.vm).sameButNew ({ U with vm := s.vm } : State) [] (0 + 1) (0 + 6) := ⟨e1, e2⟩
    have h3 := X.same.trans h2
    rw [List.append_nil] at h3
    exact h3.mono hc hs
  refine ⟨U, ?_, .threw T.heap.size, hrun, hend, Or.inr ⟨T.heap.size, rfl, cls, ce, locs, hx U hWs.alike f1 (fun q hq => f2 q hq (fun z hz => nomatch hz)), hce, hO.vm, hcl, hWs, hall, hf⟩⟩
  refine st1 _ ?_
  show Steps p.tables e below (T1.setTop { method := m, pc := pc + 3, locals := ls, stack := .ref T.heap.size :: rest, locked := none }) _
  jvm_step X₁.here [X₁.here.top, hexec, d3', Value.category]
  exact hsteps
/-- 'throw new E("text")': new; dup; ldc; invokespecial; athrow -/
theorem vx_throwS {cc : ByteArray} {pc : Nat} (hexec : p.tables.exec = Jvm.exec) (hb : c.code = cc) (hl : l.stackTraces = false) {own cls text : String} {names : List String} {ik is ic mc ms sa : Nat} {A : Nat → Prop}
    (hown : s.vm.findClass own = some m.cls) (hcls : Bundle.fit cls = true) (hnames : ∀ n ∈ names, Bundle.fit n = true)
    (hk : (Cond.classLink own ik cls).before args s = true) (hini : (Cond.initialized cls).before args s = true) (hstr : vk_R own is text sa s) (hat : ∀ w ∈ vx_atS own ic cls names, w.before args s = true)
    (hgood : ∀ w ∈ Cond.classLink own ik cls :: Cond.initialized cls :: vx_atS own ic cls names, vx_ot w = true)
    (hU : vx_Zq Bundle.tN "UNASSIGNED_STACK" Bundle.steD A s s.heap) (hN : vx_Zq Bundle.tN "SUPPRESSED_SENTINEL" Bundle.listD A s s.heap) (hS : va_S A s.heap H locs) (hsize : ls.size = c.maxLocals)
    (d0 : decode cc pc = .ok (.new ik, 3)) (d3 : decode cc (pc + 3) = .ok (.dup, 1)) (d4 : decode cc (pc + 4) = .ok (.ldc is, 2)) (d6 : decode cc (pc + 6) = .ok (.invokespecial ic, 3)) (d9 : decode cc (pc + 9) = .ok (.athrow, 1))
    (hout : ∀ x ∈ c.exceptionTable.toList, covers x (pc + 9) = false)
    (hRframes : names.length + 3 < R.frames) (hRlocals : (rest.map fun v => v.category).sum + (13 * (names.length + 1) + 43) ≤ R.locals) (hRcells : cells + 1 ≤ R.cells) (hRslots : slots + 6 ≤ R.slots) (hlocks : meth.locks = false)
    (hx : ∀ t : State, s.vm.Alike t.vm → H.size ≤ t.heap.size → (∀ q : Nat, q < H.size → t.heap[q]? = H[q]?) → XC cls s t)
    (hf : ∀ z ∈ locs, free z.base) (hc : cells + 1 ≤ mc) (hs : slots + 6 ≤ ms) :
    W p l e R s m args below meth c H locs cells slots (vx_MQ below Qc XC args s mc ms free) (F0 m pc ls rest) := by
  intro T hT X
  have htr : e.platform.stackTraces = false := (show e.platform.stackTraces = l.stackTraces by rw [X.admits.platform]).trans hl
  have Y := vx_rebase X (R' := { frames := R.frames, locals := R.locals, cells := 1, slots := 6 }) (Nat.le_refl _) (Nat.le_refl _) hRcells hRslots
  obtain ⟨s', hA⟩ : ∃ z, z = (T.setVm s.vm).setFrames (.invoking m args :: below) := ⟨_, rfl⟩
  rw [← hA] at Y
  have hvm : s'.vm = s.vm := by rw [hA]; rfl
  have hhp : s'.heap = H := by rw [hA]; exact hT
  have hW0 : s.WarmedH s'.vm := by rw [hvm]; exact State.WarmedH.refl s
  have hat' : ∀ w ∈ vx_atS own ic cls names, w.before args s' = true := fun w hw => vx_ot_at hW0 hvm.symm (hgood w (List.mem_cons_of_mem _ (List.mem_cons_of_mem _ hw))) (hat w hw)
  have hk' : (Cond.classLink own ik cls).before args s' = true := vx_ot_at hW0 hvm.symm (hgood _ List.mem_cons_self) hk
  have hini' : (Cond.initialized cls).before args s' = true := vx_ot_at hW0 hvm.symm (hgood _ (List.mem_cons_of_mem _ List.mem_cons_self)) hini
  have hU' : vx_Zq Bundle.tN "UNASSIGNED_STACK" Bundle.steD A s' s'.heap := by rw [hhp]; exact vx_Zq.moved hW0.alike (hU.kept hS.2.1)
  have hN' : vx_Zq Bundle.tN "SUPPRESSED_SENTINEL" Bundle.listD A s' s'.heap := by rw [hhp]; exact vx_Zq.moved hW0.alike (hN.kept hS.2.1)
  have h : ∀ w ∈ Bundle.ownAtoms own ic cls names, w.before args s' = true := vx_own hat' (vx_isRefq hU'.1) (vx_isRefq hN'.1) hU'.2.word hN'.2.word
  have hown' : s'.vm.findClass own = some m.cls := by rw [hvm]; exact hown
  have hins : (Cond.instantiable cls 6).before args s' = true := h _ (by simp [Bundle.ownAtoms])
  obtain ⟨vm₁, cX, kX, hfX, hkX, -, -, X₁, st1⟩ := Y.newCold hexec (own := own) (C := cls) (index := ik) (n := 6) hown' hk' hins hini'
    (g := F0 m pc ls rest) rfl (by rw [hb]; exact d0) (Nat.le_refl _) (Nat.le_refl _)
  generalize hT1 : (T.setVm vm₁).pushCell { cls := cX, slots := kX.instanceTypes.map defaultValue, vm := .none } = T1 at X₁ st1
  have hcat : (Value.ref T.heap.size).category = 1 := rfl
  have hcellA : T1.heap[T.heap.size]? = some (freshCell cX kX) := by rw [← hT1]; exact State.heap_pushCell_size _ _
  have d3' : decode c.code (pc + 3) = .ok (.dup, 1) := by rw [hb]; exact d3
  have d4' : decode c.code (pc + 4) = .ok (.ldc is, 2) := by rw [hb]; exact d4
  have hstr' : vk_R own is text sa s' := vk_R.warm hW0 hstr
  obtain ⟨U, hsteps, hrun, hend, hW, hsame, ce, hce, hO⟩ := X₁.ctorThrowS hexec htr (own := own) (cls := cls) (names := names) (ic := ic) hown' hcls hnames h (fun x hx => nomatch hx) hfX hkX hcellA (by rw [hhp, hT]; exact Nat.le_refl _) (msg := .ref sa) rfl
    (g := { method := m, pc := pc + 6, locals := ls, stack := .ref sa :: .ref T.heap.size :: .ref T.heap.size :: rest, locked := none }) rfl hsize rfl rfl (rest := rest) rfl
    (by rw [hb]; exact d6) (by rw [hb]; exact d9) hout hRframes (by simp only [List.map_cons, List.sum_cons, hcat]; omega) hlocks
  obtain ⟨f1, f2⟩ := vx_frame hsame
  rw [hhp] at f1 f2
  have hWs : s.WarmedH U.vm := State.WarmedH.trans hW0 hW
  have hcl : s.vm.findClass cls = some ce.cls := by
    have h9 := hO.cls
    rw [hvm] at h9
    exact h9
  have hall : s.sameButNew ({ U with vm := s.vm } : State) locs mc ms := by
    subst hA
    obtain ⟨e1, e2⟩ := hsame
    rw [State.setFrames_setFrames] at e1
    have h2 : (T.setVm s.vm).sameButNew ({ U with vm := s.vm } : State) [] (0 + 1) (0 + 6) := ⟨e1, e2⟩
    have h3 := X.same.trans h2
    rw [List.append_nil] at h3
    exact h3.mono hc hs
  refine ⟨U, ?_, .threw T.heap.size, hrun, hend, Or.inr ⟨T.heap.size, rfl, cls, ce, locs, hx U hWs.alike f1 (fun q hq => f2 q hq (fun z hz => nomatch hz)), hce, hO.vm, hcl, hWs, hall, hf⟩⟩
  refine st1 _ ?_
  show Steps p.tables e below (T1.setTop { method := m, pc := pc + 3, locals := ls, stack := .ref T.heap.size :: rest, locked := none }) _
  jvm_step X₁.here [X₁.here.top, hexec, d3', Value.category]
  exact X₁.ldcString hexec (own := own) (text := text) (index := is) (a := sa) hown' hstr'.1 hstr'.2
    (g := { method := m, pc := pc + 4, locals := ls, stack := .ref T.heap.size :: .ref T.heap.size :: rest, locked := none }) rfl d4' _ hsteps
/-- 'throw new E("text")', the text by a wide index -/
theorem vx_throwSW {cc : ByteArray} {pc : Nat} (hexec : p.tables.exec = Jvm.exec) (hb : c.code = cc) (hl : l.stackTraces = false) {own cls text : String} {names : List String} {ik is ic mc ms sa : Nat} {A : Nat → Prop}
    (hown : s.vm.findClass own = some m.cls) (hcls : Bundle.fit cls = true) (hnames : ∀ n ∈ names, Bundle.fit n = true)
    (hk : (Cond.classLink own ik cls).before args s = true) (hini : (Cond.initialized cls).before args s = true) (hstr : vk_R own is text sa s) (hat : ∀ w ∈ vx_atS own ic cls names, w.before args s = true)
    (hgood : ∀ w ∈ Cond.classLink own ik cls :: Cond.initialized cls :: vx_atS own ic cls names, vx_ot w = true)
    (hU : vx_Zq Bundle.tN "UNASSIGNED_STACK" Bundle.steD A s s.heap) (hN : vx_Zq Bundle.tN "SUPPRESSED_SENTINEL" Bundle.listD A s s.heap) (hS : va_S A s.heap H locs) (hsize : ls.size = c.maxLocals)
    (d0 : decode cc pc = .ok (.new ik, 3)) (d3 : decode cc (pc + 3) = .ok (.dup, 1)) (d4 : decode cc (pc + 4) = .ok (.ldc_w is, 3)) (d7 : decode cc (pc + 7) = .ok (.invokespecial ic, 3)) (d10 : decode cc (pc + 10) = .ok (.athrow, 1))
    (hout : ∀ x ∈ c.exceptionTable.toList, covers x (pc + 10) = false)
    (hRframes : names.length + 3 < R.frames) (hRlocals : (rest.map fun v => v.category).sum + (13 * (names.length + 1) + 43) ≤ R.locals) (hRcells : cells + 1 ≤ R.cells) (hRslots : slots + 6 ≤ R.slots) (hlocks : meth.locks = false)
    (hx : ∀ t : State, s.vm.Alike t.vm → H.size ≤ t.heap.size → (∀ q : Nat, q < H.size → t.heap[q]? = H[q]?) → XC cls s t)
    (hf : ∀ z ∈ locs, free z.base) (hc : cells + 1 ≤ mc) (hs : slots + 6 ≤ ms) :
    W p l e R s m args below meth c H locs cells slots (vx_MQ below Qc XC args s mc ms free) (F0 m pc ls rest) := by
  intro T hT X
  have htr : e.platform.stackTraces = false := (show e.platform.stackTraces = l.stackTraces by rw [X.admits.platform]).trans hl
  have Y := vx_rebase X (R' := { frames := R.frames, locals := R.locals, cells := 1, slots := 6 }) (Nat.le_refl _) (Nat.le_refl _) hRcells hRslots
  obtain ⟨s', hA⟩ : ∃ z, z = (T.setVm s.vm).setFrames (.invoking m args :: below) := ⟨_, rfl⟩
  rw [← hA] at Y
  have hvm : s'.vm = s.vm := by rw [hA]; rfl
  have hhp : s'.heap = H := by rw [hA]; exact hT
  have hW0 : s.WarmedH s'.vm := by rw [hvm]; exact State.WarmedH.refl s
  have hat' : ∀ w ∈ vx_atS own ic cls names, w.before args s' = true := fun w hw => vx_ot_at hW0 hvm.symm (hgood w (List.mem_cons_of_mem _ (List.mem_cons_of_mem _ hw))) (hat w hw)
  have hk' : (Cond.classLink own ik cls).before args s' = true := vx_ot_at hW0 hvm.symm (hgood _ List.mem_cons_self) hk
  have hini' : (Cond.initialized cls).before args s' = true := vx_ot_at hW0 hvm.symm (hgood _ (List.mem_cons_of_mem _ List.mem_cons_self)) hini
  have hU' : vx_Zq Bundle.tN "UNASSIGNED_STACK" Bundle.steD A s' s'.heap := by rw [hhp]; exact vx_Zq.moved hW0.alike (hU.kept hS.2.1)
  have hN' : vx_Zq Bundle.tN "SUPPRESSED_SENTINEL" Bundle.listD A s' s'.heap := by rw [hhp]; exact vx_Zq.moved hW0.alike (hN.kept hS.2.1)
  have h : ∀ w ∈ Bundle.ownAtoms own ic cls names, w.before args s' = true := vx_own hat' (vx_isRefq hU'.1) (vx_isRefq hN'.1) hU'.2.word hN'.2.word
  have hown' : s'.vm.findClass own = some m.cls := by rw [hvm]; exact hown
  have hins : (Cond.instantiable cls 6).before args s' = true := h _ (by simp [Bundle.ownAtoms])
  obtain ⟨vm₁, cX, kX, hfX, hkX, -, -, X₁, st1⟩ := Y.newCold hexec (own := own) (C := cls) (index := ik) (n := 6) hown' hk' hins hini'
    (g := F0 m pc ls rest) rfl (by rw [hb]; exact d0) (Nat.le_refl _) (Nat.le_refl _)
  generalize hT1 : (T.setVm vm₁).pushCell { cls := cX, slots := kX.instanceTypes.map defaultValue, vm := .none } = T1 at X₁ st1
  have hcat : (Value.ref T.heap.size).category = 1 := rfl
  have hcellA : T1.heap[T.heap.size]? = some (freshCell cX kX) := by rw [← hT1]; exact State.heap_pushCell_size _ _
  have d3' : decode c.code (pc + 3) = .ok (.dup, 1) := by rw [hb]; exact d3
  have d4' : decode c.code (pc + 4) = .ok (.ldc_w is, 3) := by rw [hb]; exact d4
  have hstr' : vk_R own is text sa s' := vk_R.warm hW0 hstr
  obtain ⟨U, hsteps, hrun, hend, hW, hsame, ce, hce, hO⟩ := X₁.ctorThrowS hexec htr (own := own) (cls := cls) (names := names) (ic := ic) hown' hcls hnames h (fun x hx => nomatch hx) hfX hkX hcellA (by rw [hhp, hT]; exact Nat.le_refl _) (msg := .ref sa) rfl
    (g := { method := m, pc := pc + 7, locals := ls, stack := .ref sa :: .ref T.heap.size :: .ref T.heap.size :: rest, locked := none }) rfl hsize rfl rfl (rest := rest) rfl
    (by rw [hb]; exact d7) (by rw [hb]; exact d10) hout hRframes (by simp only [List.map_cons, List.sum_cons, hcat]; omega) hlocks
  obtain ⟨f1, f2⟩ := vx_frame hsame
  rw [hhp] at f1 f2
  have hWs : s.WarmedH U.vm := State.WarmedH.trans hW0 hW
  have hcl : s.vm.findClass cls = some ce.cls := by
    have h9 := hO.cls
    rw [hvm] at h9
    exact h9
  have hall : s.sameButNew ({ U with vm := s.vm } : State) locs mc ms := by
    subst hA
    obtain ⟨e1, e2⟩ := hsame
    rw [State.setFrames_setFrames] at e1
    have h2 : (T.setVm s.vm).sameButNew ({ U with vm := s.vm } : State) [] (0 + 1) (0 + 6) := ⟨e1, e2⟩
    have h3 := X.same.trans h2
    rw [List.append_nil] at h3
    exact h3.mono hc hs
  refine ⟨U, ?_, .threw T.heap.size, hrun, hend, Or.inr ⟨T.heap.size, rfl, cls, ce, locs, hx U hWs.alike f1 (fun q hq => f2 q hq (fun z hz => nomatch hz)), hce, hO.vm, hcl, hWs, hall, hf⟩⟩
  refine st1 _ ?_
  show Steps p.tables e below (T1.setTop { method := m, pc := pc + 3, locals := ls, stack := .ref T.heap.size :: rest, locked := none }) _
  jvm_step X₁.here [X₁.here.top, hexec, d3', Value.category]
  exact X₁.ldcStringW hexec (own := own) (text := text) (index := is) (a := sa) hown' hstr'.1 hstr'.2
    (g := { method := m, pc := pc + 4, locals := ls, stack := .ref T.heap.size :: .ref T.heap.size :: rest, locked := none }) rfl d4' _ hsteps
end Ends
section Bodies
variable {l : Launch}
theorem vx_ofW {y : MethodName} {ws ws' : List Cond} {rm : Room} {Pc : Array Value → State → Prop} {Qc : Array Value → State → Outcome → State → Prop} {XC : String → State → State → Prop} {mc ms : Nat} {free : Addr → Prop} {cc : ByteArray} {maxL : Nat} {ret : Option FieldType}
    (hy : plainName y.cls = true) (hw : ws = Cond.code y cc maxL ret :: ws')
    (body : ∀ p e s m args below meth c s₁, BodyLoose p l y (headSpec ws rm) cc maxL ret e s m args below meth c s₁ → c.maxLocals = maxL → (∀ x ∈ c.exceptionTable.toList, False) → Pc args s →
      W p l e (headSpec ws rm).room s m args below meth c s.heap [] 0 0 (vx_MQ below Qc XC args s mc ms free) (entryFrame m args maxL)) : vx_Met l y ws rm Pc Qc XC mc ms free := by
  refine MetFree.of_bodyS (code := cc) (maxLocals := maxL) (ret := ret) hy ?_ ?_
  · intro args s m h hn
    obtain ⟨meth, c, h1, h2, h3, h4, h5, h6, -, -⟩ := Cond.code_spec hn (atoms_spec (ws := ws) h _ (by rw [hw]; exact List.mem_cons_self))
    exact ⟨meth, c, h1, h2, h3, h4, h5, h6⟩
  · intro p e s m args below meth c s₁ B hml hP _
    have hh0 : s₁.heap = s.heap := by rw [B.state]; rfl
    have ht : ∀ x ∈ c.exceptionTable.toList, False := by
      obtain ⟨meth9, c9, h1, h2, -, -, -, -, h7, -⟩ := Cond.code_spec B.named (atoms_spec (ws := ws) B.pre _ (by rw [hw]; exact List.mem_cons_self))
      cases Option.some.inj (h1.symm.trans B.method)
      cases Option.some.inj (h2.symm.trans (Stand.of_body B).code)
      intro x hx
      rw [Array.isEmpty_iff.mp h7] at hx
      cases hx
    obtain ⟨t, a1, o, b1, b2, b3⟩ := body p e s m args below meth c s₁ B hml ht hP s₁ hh0 (Stand.of_body B)
    exact ⟨t, o, a1, b1, b2, b3⟩
/-- the table of a body with handlers -/
theorem vx_table {p : Program} {x y : MethodName} {S : Spec} {cc bytes : ByteArray} {maxL maxL' : Nat} {ret ret' : Option FieldType} {e : Env} {s s₁ : State} {m : MethodId} {args : Array Value} {below : List Frame} {meth : Method} {c : Code} {hh : List (Nat × Nat × Nat × Nat)}
    (B : BodyLoose p l y S cc maxL ret e s m args below meth c s₁) (h : (Cond.codeWith y bytes maxL' ret' hh).before args s = true) : c.exceptionTable.toList = tableOf hh := by
  obtain ⟨m9, meth9, c9, hn9, h1, h2, -, -, h6, -⟩ := Cond.codeWith_spec h
  cases Option.some.inj (hn9.symm.trans B.named)
  cases Option.some.inj (h1.symm.trans B.method)
  cases Option.some.inj (h2.symm.trans (Stand.of_body B).code)
  rw [← h6, table_eq]
end Bodies
end VXA
/-! ===== END ===== -/
/-! ===== BEGIN a static call of a method with an exception table ===== -/
section VXS
variable {p : Program} {l : Launch} {e : Env} {R : Room} {s : State} {m : MethodId} {args : Array Value} {below : List Frame} {meth : Method} {c : Code} {T : State} {H : Heap} {locs : List Loc} {cells slots : Nat}
abbrev vx_CSW (R : Room) (s : State) (args : Array Value) (own : String) (index : Nat) (y : MethodName) (bytes : ByteArray) (maxL : Nat) (ret : Option FieldType) (hh : List (Nat × Nat × Nat × Nat)) (ws : List Cond) (rm : Room) (mc ms n : Nat) : Prop :=
  (rm.cells = mc ∧ rm.slots = ms ∧ rm.frames + 1 ≤ R.frames ∧ 8 + (maxL + 11) + rm.locals ≤ R.locals ∧ (∀ w ∈ ws, ∀ (a' : Array Value) (U : State), s.WarmedH U.vm → w.before a' U = true) ∧ Cond.codeWith y bytes maxL ret hh ∈ ws) ∧
  (Cond.codeWith y bytes maxL ret hh).before args s = true ∧ (Cond.initialized y.cls).before args s = true ∧ (y.cls ≠ "java/lang/invoke/MethodHandle" ∧ y.cls ≠ "java/lang/invoke/VarHandle") ∧
  (∀ sig, parseMethodDescriptor y.desc = some sig → n = sig.parameters.length) ∧ (Cond.methodLink own index y).before args s = true ∧ (Cond.static y).before args s = true
theorem vx_cwSW {own : String} {index maxL mc ms : Nat} {y : MethodName} {bytes : ByteArray} {ret : Option FieldType} {hh : List (Nat × Nat × Nat × Nat)} {Ts ws ws' : List Cond} {rm : Room} (n : Nat) (ht : ∀ w ∈ Ts, w.before args s = true) (hT : GoodIn Ts (va_wsS own index y ws)) (hw : ws = Cond.codeWith y bytes maxL ret hh :: ws') (hrc : rm.cells = mc) (hrs : rm.slots = ms)
    (hd : y.cls ≠ "java/lang/invoke/MethodHandle" ∧ y.cls ≠ "java/lang/invoke/VarHandle" ∧ (parseMethodDescriptor y.desc).map (fun d => d.parameters.length) = some n) (hR : rm.frames + 1 ≤ R.frames ∧ 8 + (maxL + 11) + rm.locals ≤ R.locals) :
    vx_CSW R s args own index y bytes maxL ret hh ws rm mc ms n := by
  have ok : ∀ w ∈ va_wsS own index y ws, w.before args s = true := fun w h => ht w (hT w h).1
  have hG : GoodIn Ts ws := fun w h => hT w (by unfold va_wsS; exact List.mem_append_right _ h)
  have hc : Cond.codeWith y bytes maxL ret hh ∈ ws := by rw [hw]; exact List.mem_cons_self
  refine ⟨⟨hrc, hrs, hR.1, hR.2, pay_in ht hG, hc⟩, ht _ (hG _ hc).1, ok _ (by simp [va_wsS]), ⟨hd.1, hd.2.1⟩, fun sig h => ?_, ok _ (by simp [va_wsS]), ok _ (by simp [va_wsS])⟩
  have h2 := hd.2.2
  rw [h] at h2
  exact (Option.some.inj h2).symm
theorem vx_callSW (X : Stand p l e R s m args below meth c T locs cells slots) (hexec : p.tables.exec = Jvm.exec) {own : String} {index : Nat} {y : MethodName} {bytes : ByteArray} {maxL : Nat} {ret : Option FieldType} {hh : List (Nat × Nat × Nat × Nat)}
    (hown : s.vm.findClass own = some m.cls) (hlink : (Cond.methodLink own index y).before args s = true) (hstat : (Cond.static y).before args s = true) (hinit : (Cond.initialized y.cls).before args s = true)
    (hcode : (Cond.codeWith y bytes maxL ret hh).before args s = true) (hy : y.cls ≠ "java/lang/invoke/MethodHandle" ∧ y.cls ≠ "java/lang/invoke/VarHandle")
    {W9 : Nat} {Pre : Pt → Array Value → Prop} {Post : Pt → Array Value → Option Value → Pt → Prop} (hK : Back l R p e below s args y 3 W9 Pre Post)
    {g : JFrame} (hg : g.method = m) (hsize : g.locals.size = c.maxLocals) {argsL rest : List Value} (hlen : ∀ sig, parseMethodDescriptor y.desc = some sig → argsL.length = sig.parameters.length)
    (hstack : g.stack = argsL.reverse ++ rest) (hW : 2 * g.monitorRoom + (rest.map fun v => v.category).sum ≤ W9) (hdg : decode c.code g.pc = .ok (.invokestatic index, 3))
    (hpre : ∀ vm₁, s.WarmedH vm₁ → Pre ⟨T.setVm vm₁, locs, cells, slots⟩ argsL.toArray) :
    ∃ (v : Option Value) (vm₁ : Vm) (B : Pt), s.WarmedH vm₁ ∧ Stand p l e R s m args below meth c B.U B.locs B.cells B.slots ∧ Post ⟨T.setVm vm₁, locs, cells, slots⟩ argsL.toArray v B ∧
      ∀ target, Steps p.tables e below (B.U.setTop { g with pc := g.pc + 3, stack := v.toList ++ rest }) target → Steps p.tables e below (T.setTop g) target := by
  obtain ⟨mk, methM, cM, hnamed, hmethM, -, -, -, -, -, -, hsigM⟩ := Cond.codeWith_spec hcode
  have hstatic : methM.isStatic = true := Cond.static_spec hnamed hmethM hstat
  obtain ⟨kP, hkP, -⟩ := className_of_methodNamed hnamed
  have hinitP : kP.init = .initialized := Cond.initialized_spec (findClass_of_methodNamed hnamed) hkP hinit
  obtain ⟨vm₁, X₁, hstep₁⟩ := X.invokestatic hexec hown hlink hnamed hmethM hstatic hkP hinitP hy (g := g) hg (argsL := argsL) (rest := rest) (hlen _ hsigM) hstack hdg
  obtain ⟨v, B, X', hpost, hsteps⟩ := hK m meth c ⟨T.setVm vm₁, locs, cells, slots⟩ { g with stack := rest } (.invokestatic index) mk argsL.toArray X₁ hg hsize hdg hW (X₁.named hnamed) (hpre vm₁ X₁.warmed)
  exact ⟨v, vm₁, B, X₁.warmed, X', hpost, fun target h => hstep₁ _ fun acts => by rw [doInvoke_state]; exact hsteps.trans h⟩
theorem vx_runSW {y : MethodName} {bytes cc : ByteArray} {maxL nL mc ms n index : Nat} {ret : Option FieldType} {hh : List (Nat × Nat × Nat × Nat)} {ws : List Cond} {rm : Room} {Pc : Array Value → State → Prop} {Qc : Array Value → State → Outcome → State → Prop} {free : Addr → Prop} {Ts : List Cond} {own : String} {As rest : List Value} {g : JFrame}
    (S : CallFix p m c cc nL s args Ts own) (hM : Met l y ws rm Pc Qc mc ms free) (cw : vx_CSW R s args own index y bytes maxL ret hh ws rm mc ms n) (hp : PreS s H Pc As)
    (hg : g.method = m) (hn : As.length = n) (hsize : g.locals.size = nL) (hstack : g.stack = As.reverse ++ rest) (hW : 2 * g.monitorRoom + (rest.map fun v => v.category).sum ≤ 8) (hdg : decode cc g.pc = .ok (.invokestatic index, 3)) (hf : cells + mc ≤ R.cells ∧ slots + ms ≤ R.slots) :
    va_Run p l e R s m args below meth c H locs cells slots mc ms g rest (Qc As.toArray) (free) := by
  obtain ⟨⟨hrc, hrs, hfr, hlo, hws, hcw⟩, hcode, hini, hy, hlen, hl, hstt⟩ := cw
  have hK : Back l R p e below s args y 3 8 (PreOf R mc ms Pc) (PostOf Qc mc ms free) := va_backW (hh := hh) (bytes := bytes) (maxL := maxL) (ret := ret) hM hp.1 hrc hrs hfr hlo hws hcw (fun a' U hW => word_at hW (Or.inl (by first | rfl | simp [Cond.onTables, Cond.keeps, Cond.steady])) hini)
  obtain ⟨hx, hb, hml, ho, -⟩ := S
  intro T hT X
  obtain ⟨v, vm₁, ⟨U', l2, c2, s2⟩, hW₁, X', ⟨g', mk, t, L, e1, e2, hq, h1, hL, h2, h3⟩, st⟩ := vx_callSW X hx (hh := hh) (bytes := bytes) (maxL := maxL) (ret := ret) ho hl hstt hini hcode hy hK hg (hsize.trans hml.symm) (argsL := As) (rest := rest) (fun sig h => hn.trans (hlen sig h)) hstack hW (by rw [hb]; exact hdg)
    (fun vm₁ hW₁ => ⟨hf.1, hf.2, hp.2 (T.setVm vm₁) hT hW₁⟩)
  dsimp only [Pt.U, Pt.locs, Pt.cells, Pt.slots] at X' e1 e2 h1 h2 h3 st
  subst h1; subst h2; subst h3
  exact ⟨v, (T.setVm vm₁).calling g' mk As.toArray, t, U', L, hT, X', hL, e1, e2, hq, st⟩
/-- not caught here, past rows that name other classes: it goes on to the caller -/
theorem vx_outP {p : Program} {l : Launch} {e : Env} {R : Room} {s : State} {m : MethodId} {args : Array Value} {below : List Frame} {meth : Method} {c : Code} {H : Heap} {locs : List Loc} {cells slots : Nat} {free : Addr → Prop} {ls : Array Slot} {rest : List Value} {Qc : Array Value → State → Outcome → State → Prop} {XC : String → State → State → Prop}
    {pc : Nat} {own E : String} {ce : Cell} {q : Addr} {mc ms : Nat} (hown : s.vm.findClass own = some m.cls) (hlocks : meth.locks = false)
    (hpass : ∀ z ∈ c.exceptionTable.toList, covers z pc = false ∨ (z.catchType ≠ 0 ∧ ∃ nm : String, (Cond.classLink own z.catchType nm).before args s = true ∧ va_Nc E nm s)) (hcell : H[q]? = some ce) (hv : ce.vm = .none) (hcl : s.vm.findClass E = some ce.cls)
    (hx : ∀ t : State, t.heap = H → s.vm.Alike t.vm → XC E s t) (hf : ∀ z ∈ locs, free z.base) (hc : cells ≤ mc) (hs : slots ≤ ms) :
    vx_W p l e R s m args below meth c H locs cells slots (vx_MQ below Qc XC args s mc ms free) (F0 m pc ls rest) q := by
  intro T hT X
  have hpl : e.platform.magicAccessors = ({} : Platform).magicAccessors := by rw [X.admits.platform]
  obtain ⟨vm', hW', X', st⟩ := X.outThrough hlocks q (g := F0 m pc ls rest) rfl rfl rfl (cell := ce) (by rw [hT]; exact hcell) (by rw [hv]; rfl)
    (by obtain ⟨k9, h9, -⟩ := Vm.findClass_spec hcl; exact ⟨k9, h9⟩) (fun z hz => by
      rcases hpass z hz with h | ⟨hz0, nm, hl1, hn1⟩
      · exact Or.inl h
      · obtain ⟨c6, hc6, hcl6⟩ := Cond.classLink_spec hown hl1 e.platform hpl
        obtain ⟨a8, b8, h1, h2, h3⟩ := hn1
        cases Option.some.inj (h1.symm.trans hcl)
        cases Option.some.inj (h2.symm.trans hc6)
        exact Or.inr ⟨hz0, _, hcl6, h3⟩)
  obtain ⟨g₀, hfr⟩ := X'.frames_eq
  have hcell9 : ((T.setVm vm').setFrames (.throwing q :: below)).heap[q]? = some ce := by
    show T.heap[q]? = some ce
    rw [hT]; exact hcell
  have hend : Ended ((T.setVm vm').setFrames (.throwing q :: below)) below (.threw q) := State.frames_setFrames _ (State.cur_lt_of_frames hfr)
  refine ⟨(T.setVm vm').setFrames (.throwing q :: below), ?_, .threw q, X'.here.running, hend, Or.inr ⟨q, rfl, E, ce, locs, hx _ hT (X'.ends _).1.alike, hcell9, hv, hcl, (X'.ends _).1, (X'.ends _).2.mono hc hs, hf⟩⟩
  rw [X.pushThrowing_eq]
  exact st
/-- a thing of a world lies in the heap -/
theorem vx_lt {D : va_G} {cl : List vw_C} {ws : va_W} {H1 : Heap} (h : va_P D cl ws H1) {k : Nat} {q : Nat × va_E} (hk : ws[k]? = some q) : q.1 < H1.size := (h k q hk).lt
end VXS
/-! ===== END ===== -/
/-! ===== BEGIN methods with a table of their own: called by a name, returning or throwing ===== -/
section VXH
/-! vx_backW, vx_callVX, vx_callSX, vx_callVW, vx_runVW, vx_runVX, vx_runSX, vx_ofWH follow the same proofs as their sisters above (Free/Laws.lean, Shelf42/LK1.lean); vx_outP calls Shelf42/NT130.lean (outThrough). -/
section
variable {l : Launch} {R : Room} {p : Program} {e : Env} {below : List Frame} {s : State} {sargs : Array Value} {y : MethodName} {len W9 : Nat}
theorem vx_backW {ws : List Cond} {rm : Room} {Pc : Array Value → State → Prop} {Qc : Array Value → State → Outcome → State → Prop} {XC : String → State → State → Prop} {mc ms : Nat} {free : Addr → Prop} {bytes : ByteArray} {maxL : Nat} {ret : Option FieldType} {hh : List (Nat × Nat × Nat × Nat)}
    (hM : vx_Met l y ws rm Pc Qc XC mc ms free) (hblind : FrameBlind Pc) (hrc : rm.cells = mc) (hrs : rm.slots = ms)
    (hframes : rm.frames + 1 ≤ R.frames) (hlocals : W9 + (maxL + 11) + rm.locals ≤ R.locals)
    (hws : ∀ w ∈ ws, ∀ a' U, s.WarmedH U.vm → w.before a' U = true) (hcode : Cond.codeWith y bytes maxL ret hh ∈ ws) (hinit : ∀ a' U, s.WarmedH U.vm → (Cond.initialized y.cls).before a' U = true) :
    vx_Back l R p e below s sargs y len W9 (PreOf R mc ms Pc) (PostOf Qc mc ms free) (vx_Post XC mc ms free) := by
  intro m meth c A g ig mk a X hg hsize hdg hW hn hp
  have h1 : (headSpec ws rm).pre.before a A.U = true := atoms_intro fun w hw => hws w hw _ _ X.warmed
  have h2 : (Cond.codeWith y bytes maxL ret hh).before a A.U = true := hws _ hcode _ _ X.warmed
  have h3 : (Cond.initialized y.cls).before a A.U = true := hinit _ _ X.warmed
  have h4 : A.cells + (headSpec ws rm).room.cells ≤ R.cells := by rw [show (headSpec ws rm).room.cells = mc from hrc]; exact hp.1
  have h5 : A.slots + (headSpec ws rm).room.slots ≤ R.slots := by rw [show (headSpec ws rm).room.slots = ms from hrs]; exact hp.2.1
  have hPc : Pc a (A.U.calling g mk a) := hblind _ _ _ _ hp.2.2
  obtain ⟨U, Ls, c0, s0⟩ := A
  dsimp only [Pt.U, Pt.locs, Pt.cells, Pt.slots] at h1 h2 h3 h4 h5 X hn hPc ⊢
  obtain ⟨m9, methY, cY, hn9, hmY, hcY, -, hlY, -⟩ := Cond.codeWith_spec h2
  cases Option.some.inj (hn9.symm.trans hn)
  obtain ⟨kY, hkY, -⟩ := className_of_methodNamed hn
  have hinitY : kY.init = .initialized := Cond.initialized_spec (findClass_of_methodNamed hn) hkY h3
  have h : At U g.method c below := by rw [hg]; exact X.here
  have hlocals9 : W9 + (maxL + 11) + (headSpec ws rm).room.locals ≤ R.locals := hlocals
  have happ : (headSpec ws rm).appliesLoose y e.platform (U.calling g mk a) = true :=
    Spec.appliesLoose_calling (g := g) h hdg hn hkY hinitY
      (X.room_calling (g := g) (R' := (headSpec ws rm).room) hsize hmY hcY hframes (by rw [hlY]; omega) h4 h5) h1
  obtain ⟨mid, hmid⟩ := h.above
  have hfr : (U.setTop g).frames = (.java g :: mid) ++ below := by rw [State.frames_setTop' g h.top, hmid]; rfl
  obtain ⟨o, s₂, hsteps, -, hend, hq⟩ := Steps.callFree hM p X.admits X.cas X.clock (acts := []) hfr happ hPc trivial
  have hq' : vx_Q Qc XC mc ms free a (U.calling g mk a) o s₂ := hq
  rw [State.frames_setTop' g h.top] at hend
  obtain ⟨g₀, hg0⟩ := Option.isSome_iff_exists.mp h.top
  obtain ⟨r, hr⟩ := State.topJava?_eq_some.mp hg0
  have hr' : (({ U with heap := s₂.heap, slotsUsed := s₂.slotsUsed } : State).setVm s₂.vm).frames = .java g₀ :: r := hr
  rcases hq' with ⟨hqc, L, hfe, hL⟩ | ⟨q, rfl, E, ce, L, hx, hce, hcv, hcl, hW₂, hsm, hL⟩
  · obtain ⟨⟨v, rfl⟩, hW₂, e2, q2, q3, q4, q5, q6⟩ := id hfe
    have e3 : s₂ = ({ (U.calling g mk a).setFrames s₂.frames with heap := s₂.heap, slotsUsed := s₂.slotsUsed } : State).setVm s₂.vm := by
      have : s₂ = ({ s₂ with vm := (U.calling g mk a).vm } : State).setVm s₂.vm := rfl
      rw [e2] at this
      exact this
    obtain ⟨c₂, i₂, len₂, hc₂, hd₂, hf₂⟩ := hend
    have hW' : U.WarmedH s₂.vm := hW₂
    have hcc : c₂ = c := by
      have h1 : s₂.code? g.method = U.code? g.method := by
        rw [State.code?_eq, State.code?_eq, hW'.alike.method?]
      exact Option.some.inj (hc₂.symm.trans (h1.trans h.code))
    subst hcc
    have hlen : len₂ = len := by rw [hdg] at hd₂; cases hd₂; rfl
    subst hlen
    have hs₂ : s₂ = (({ U with heap := s₂.heap, slotsUsed := s₂.slotsUsed } : State).setVm s₂.vm).setTop { g with pc := g.pc + len₂, stack := v.toList ++ g.stack } := by
      refine e3.trans ?_
      rw [hf₂, State.calling_eq h.top, State.setFrames_setFrames, State.setTop_of_frames _ hr', hr]
      rfl
    have hsame : U.sameButNew ({ U with heap := s₂.heap, slotsUsed := s₂.slotsUsed } : State) L mc ms := by
      refine ⟨?_, q2, q3, q4, q5, q6⟩
      obtain ⟨t, ht, -⟩ := State.frames_cons hr
      show ({ U with heap := s₂.heap, slotsUsed := s₂.slotsUsed } : State) = { U.setFrames U.frames with heap := s₂.heap, slotsUsed := s₂.slotsUsed }
      rw [State.setFrames_self ht]
    subst hg
    refine Or.inl ⟨v, ⟨(({ U with heap := s₂.heap, slotsUsed := s₂.slotsUsed } : State).setVm s₂.vm), Ls ++ L, c0 + mc, s0 + ms⟩,
      ⟨X.admits, X.cas, X.clock, X.frames, X.room, X.hears, X.method, X.code, (X.here.setHeapUsed s₂.heap s₂.slotsUsed).setVm hW'.alike, X.tail, State.WarmedH.trans X.warmed hW', X.limits, X.bytes, X.same.trans (hsame.setVm s.vm)⟩,
      ⟨g, mk, s₂, L, rfl, rfl, hqc, rfl, hL, rfl, rfl⟩, ?_⟩
    show Steps p.tables e below _ ((({ U with heap := s₂.heap, slotsUsed := s₂.slotsUsed } : State).setVm s₂.vm).setTop { g with pc := g.pc + len₂, stack := v.toList ++ g.stack })
    rw [← hs₂]
    exact hsteps
  · obtain ⟨e2, q2, q3, q4, q5, q6⟩ := id hsm
    have e3 : s₂ = ({ (U.calling g mk a).setFrames s₂.frames with heap := s₂.heap, slotsUsed := s₂.slotsUsed } : State).setVm s₂.vm := by
      have : s₂ = ({ s₂ with vm := (U.calling g mk a).vm } : State).setVm s₂.vm := rfl
      rw [e2] at this
      exact this
    have hf₂ : s₂.frames = .throwing q :: .java g :: U.frames.tail := hend
    have hW' : U.WarmedH s₂.vm := hW₂
    have hs₂ : s₂ = ((({ U with heap := s₂.heap, slotsUsed := s₂.slotsUsed } : State).setVm s₂.vm).setTop g).pushFrame (.throwing q) := by
      refine e3.trans ?_
      rw [hf₂, State.calling_eq h.top, State.setFrames_setFrames, State.pushFrame, State.frames_setTop _ hr', State.setTop_of_frames _ hr', State.setFrames_setFrames, hr]
      rfl
    have hsame : U.sameButNew ({ U with heap := s₂.heap, slotsUsed := s₂.slotsUsed } : State) L mc ms := by
      refine ⟨?_, q2, q3, q4, q5, q6⟩
      obtain ⟨t, ht, -⟩ := State.frames_cons hr
      show ({ U with heap := s₂.heap, slotsUsed := s₂.slotsUsed } : State) = { U.setFrames U.frames with heap := s₂.heap, slotsUsed := s₂.slotsUsed }
      rw [State.setFrames_self ht]
    subst hg
    refine Or.inr ⟨q, ⟨(({ U with heap := s₂.heap, slotsUsed := s₂.slotsUsed } : State).setVm s₂.vm), Ls ++ L, c0 + mc, s0 + ms⟩,
      ⟨X.admits, X.cas, X.clock, X.frames, X.room, X.hears, X.method, X.code, (X.here.setHeapUsed s₂.heap s₂.slotsUsed).setVm hW'.alike, X.tail, State.WarmedH.trans X.warmed hW', X.limits, X.bytes, X.same.trans (hsame.setVm s.vm)⟩,
      ⟨g, mk, s₂, L, E, ce, rfl, rfl, hx, hce, hcv, hcl, rfl, hL, rfl, rfl⟩, ?_⟩
    show Steps p.tables e below _ (((({ U with heap := s₂.heap, slotsUsed := s₂.slotsUsed } : State).setVm s₂.vm).setTop g).pushFrame (.throwing q))
    rw [← hs₂]
    exact hsteps
end
variable {p : Program} {l : Launch} {e : Env} {R : Room} {s : State} {m : MethodId} {args : Array Value} {below : List Frame} {meth : Method} {c : Code} {T : State} {H : Heap} {locs : List Loc} {cells slots : Nat}
theorem vx_callVX (X : Stand p l e R s m args below meth c T locs cells slots) (hexec : p.tables.exec = Jvm.exec) {own C : String} {index : Nat} {y : MethodName} {bytes : ByteArray} {maxL : Nat} {ret : Option FieldType} {hh : List (Nat × Nat × Nat × Nat)}
    (hown : s.vm.findClass own = some m.cls) (hlink : (Cond.methodLink own index y).before args s = true) (hinst : (Cond.instanceMethod y).before args s = true) (hsel : (Cond.selects C y y).before args s = true)
    (hcode : (Cond.codeWith y bytes maxL ret hh).before args s = true) (hy : y.cls ≠ "java/lang/invoke/MethodHandle" ∧ y.cls ≠ "java/lang/invoke/VarHandle")
    {W9 : Nat} {Pre : Pt → Array Value → Prop} {Post : Pt → Array Value → Option Value → Pt → Prop} {PostX : Pt → Array Value → Addr → Pt → Prop} (hK : vx_Back l R p e below s args y 3 W9 Pre Post PostX)
    {b : Addr} {cellB : Cell} (hcell : T.heap[b]? = some cellB) (hobj : cellB.vm.isStatics = false) (hcls : s.vm.findClass C = some cellB.cls)
    {g : JFrame} (hg : g.method = m) (hsize : g.locals.size = c.maxLocals) {argsL rest : List Value} (hlen : ∀ sig, parseMethodDescriptor y.desc = some sig → argsL.length = sig.parameters.length)
    (hstack : g.stack = argsL.reverse ++ .ref b :: rest) (hW : 2 * g.monitorRoom + (rest.map fun v => v.category).sum ≤ W9) (hdg : decode c.code g.pc = .ok (.invokevirtual index, 3))
    (hpre : ∀ vm₁, s.WarmedH vm₁ → Pre ⟨T.setVm vm₁, locs, cells, slots⟩ (Value.ref b :: argsL).toArray) :
    (∃ (v : Option Value) (vm₁ : Vm) (B : Pt), s.WarmedH vm₁ ∧ Stand p l e R s m args below meth c B.U B.locs B.cells B.slots ∧ Post ⟨T.setVm vm₁, locs, cells, slots⟩ (Value.ref b :: argsL).toArray v B ∧
      ∀ target, Steps p.tables e below (B.U.setTop { g with pc := g.pc + 3, stack := v.toList ++ rest }) target → Steps p.tables e below (T.setTop g) target) ∨
    (∃ (q : Addr) (vm₁ : Vm) (B : Pt), s.WarmedH vm₁ ∧ Stand p l e R s m args below meth c B.U B.locs B.cells B.slots ∧ PostX ⟨T.setVm vm₁, locs, cells, slots⟩ (Value.ref b :: argsL).toArray q B ∧
      Steps p.tables e below (T.setTop g) ((B.U.setTop { g with stack := rest }).pushFrame (.throwing q))) := by
  obtain ⟨mk, methM, hnamed, hmethM, hstM, habM⟩ := Cond.instanceMethod_spec hinst
  obtain ⟨m8, methM', cM, hn8, hmethM', -, -, -, -, -, -, hsigM⟩ := Cond.codeWith_spec hcode
  cases Option.some.inj (hn8.symm.trans hnamed)
  cases hmethM.symm.trans hmethM'
  obtain ⟨c2, r2, m2, q1, q2, q3, q4, kP, hkP, hkPi⟩ := Cond.selects_spec hsel
  cases hcls.symm.trans q1
  cases (State.methodFound?_of_named hnamed hy).symm.trans q2
  cases hnamed.symm.trans q3
  have hselP : selectMethod e.platform s.vm cellB.cls mk = .method mk := by rw [Launch.admits_selectMethod X.admits]; exact q4
  obtain ⟨vm₁, X₁, hstep₁⟩ := X.invokevirtual hexec hown hlink hnamed hmethM hstM hkP hkPi hy (a := b) (cell := cellB) hcell
    (fun z h => by rw [h] at hobj; cases hobj) hselP hmethM habM hkP hkPi (g := g) hg (argsL := argsL) (rest := rest) (hlen _ hsigM) hstack hdg
  rcases hK m meth c ⟨T.setVm vm₁, locs, cells, slots⟩ { g with stack := rest } (.invokevirtual index) mk (Value.ref b :: argsL).toArray X₁ hg hsize hdg hW (X₁.named hnamed) (hpre vm₁ X₁.warmed) with ⟨v, B, X', hpost, hsteps⟩ | ⟨q, B, X', hpost, hsteps⟩
  · exact Or.inl ⟨v, vm₁, B, X₁.warmed, X', hpost, fun target h => hstep₁ _ fun acts => by rw [doInvoke_state]; exact hsteps.trans h⟩
  · exact Or.inr ⟨q, vm₁, B, X₁.warmed, X', hpost, hstep₁ _ fun acts => by rw [doInvoke_state]; exact hsteps⟩
theorem vx_callSX (X : Stand p l e R s m args below meth c T locs cells slots) (hexec : p.tables.exec = Jvm.exec) {own : String} {index : Nat} {y : MethodName} {bytes : ByteArray} {maxL : Nat} {ret : Option FieldType} {hh : List (Nat × Nat × Nat × Nat)}
    (hown : s.vm.findClass own = some m.cls) (hlink : (Cond.methodLink own index y).before args s = true) (hstat : (Cond.static y).before args s = true) (hinit : (Cond.initialized y.cls).before args s = true)
    (hcode : (Cond.codeWith y bytes maxL ret hh).before args s = true) (hy : y.cls ≠ "java/lang/invoke/MethodHandle" ∧ y.cls ≠ "java/lang/invoke/VarHandle")
    {W9 : Nat} {Pre : Pt → Array Value → Prop} {Post : Pt → Array Value → Option Value → Pt → Prop} {PostX : Pt → Array Value → Addr → Pt → Prop} (hK : vx_Back l R p e below s args y 3 W9 Pre Post PostX)
    {g : JFrame} (hg : g.method = m) (hsize : g.locals.size = c.maxLocals) {argsL rest : List Value} (hlen : ∀ sig, parseMethodDescriptor y.desc = some sig → argsL.length = sig.parameters.length)
    (hstack : g.stack = argsL.reverse ++ rest) (hW : 2 * g.monitorRoom + (rest.map fun v => v.category).sum ≤ W9) (hdg : decode c.code g.pc = .ok (.invokestatic index, 3))
    (hpre : ∀ vm₁, s.WarmedH vm₁ → Pre ⟨T.setVm vm₁, locs, cells, slots⟩ argsL.toArray) :
    (∃ (v : Option Value) (vm₁ : Vm) (B : Pt), s.WarmedH vm₁ ∧ Stand p l e R s m args below meth c B.U B.locs B.cells B.slots ∧ Post ⟨T.setVm vm₁, locs, cells, slots⟩ argsL.toArray v B ∧
      ∀ target, Steps p.tables e below (B.U.setTop { g with pc := g.pc + 3, stack := v.toList ++ rest }) target → Steps p.tables e below (T.setTop g) target) ∨
    (∃ (q : Addr) (vm₁ : Vm) (B : Pt), s.WarmedH vm₁ ∧ Stand p l e R s m args below meth c B.U B.locs B.cells B.slots ∧ PostX ⟨T.setVm vm₁, locs, cells, slots⟩ argsL.toArray q B ∧
      Steps p.tables e below (T.setTop g) ((B.U.setTop { g with stack := rest }).pushFrame (.throwing q))) := by
  obtain ⟨mk, methM, cM, hnamed, hmethM, -, -, -, -, -, -, hsigM⟩ := Cond.codeWith_spec hcode
  have hstatic : methM.isStatic = true := Cond.static_spec hnamed hmethM hstat
  obtain ⟨kP, hkP, -⟩ := className_of_methodNamed hnamed
  have hinitP : kP.init = .initialized := Cond.initialized_spec (findClass_of_methodNamed hnamed) hkP hinit
  obtain ⟨vm₁, X₁, hstep₁⟩ := X.invokestatic hexec hown hlink hnamed hmethM hstatic hkP hinitP hy (g := g) hg (argsL := argsL) (rest := rest) (hlen _ hsigM) hstack hdg
  rcases hK m meth c ⟨T.setVm vm₁, locs, cells, slots⟩ { g with stack := rest } (.invokestatic index) mk argsL.toArray X₁ hg hsize hdg hW (X₁.named hnamed) (hpre vm₁ X₁.warmed) with ⟨v, B, X', hpost, hsteps⟩ | ⟨q, B, X', hpost, hsteps⟩
  · exact Or.inl ⟨v, vm₁, B, X₁.warmed, X', hpost, fun target h => hstep₁ _ fun acts => by rw [doInvoke_state]; exact hsteps.trans h⟩
  · exact Or.inr ⟨q, vm₁, B, X₁.warmed, X', hpost, hstep₁ _ fun acts => by rw [doInvoke_state]; exact hsteps⟩
theorem vx_callVW (X : Stand p l e R s m args below meth c T locs cells slots) (hexec : p.tables.exec = Jvm.exec) {own C : String} {index : Nat} {y : MethodName} {bytes : ByteArray} {maxL : Nat} {ret : Option FieldType} {hh : List (Nat × Nat × Nat × Nat)}
    (hown : s.vm.findClass own = some m.cls) (hlink : (Cond.methodLink own index y).before args s = true) (hinst : (Cond.instanceMethod y).before args s = true) (hsel : (Cond.selects C y y).before args s = true)
    (hcode : (Cond.codeWith y bytes maxL ret hh).before args s = true) (hy : y.cls ≠ "java/lang/invoke/MethodHandle" ∧ y.cls ≠ "java/lang/invoke/VarHandle")
    {W9 : Nat} {Pre : Pt → Array Value → Prop} {Post : Pt → Array Value → Option Value → Pt → Prop} (hK : Back l R p e below s args y 3 W9 Pre Post)
    {b : Addr} {cellB : Cell} (hcell : T.heap[b]? = some cellB) (hobj : cellB.vm.isStatics = false) (hcls : s.vm.findClass C = some cellB.cls)
    {g : JFrame} (hg : g.method = m) (hsize : g.locals.size = c.maxLocals) {argsL rest : List Value} (hlen : ∀ sig, parseMethodDescriptor y.desc = some sig → argsL.length = sig.parameters.length)
    (hstack : g.stack = argsL.reverse ++ .ref b :: rest) (hW : 2 * g.monitorRoom + (rest.map fun v => v.category).sum ≤ W9) (hdg : decode c.code g.pc = .ok (.invokevirtual index, 3))
    (hpre : ∀ vm₁, s.WarmedH vm₁ → Pre ⟨T.setVm vm₁, locs, cells, slots⟩ (Value.ref b :: argsL).toArray) :
    ∃ (v : Option Value) (vm₁ : Vm) (B : Pt), s.WarmedH vm₁ ∧ Stand p l e R s m args below meth c B.U B.locs B.cells B.slots ∧ Post ⟨T.setVm vm₁, locs, cells, slots⟩ (Value.ref b :: argsL).toArray v B ∧
      ∀ target, Steps p.tables e below (B.U.setTop { g with pc := g.pc + 3, stack := v.toList ++ rest }) target → Steps p.tables e below (T.setTop g) target := by
  obtain ⟨mk, methM, hnamed, hmethM, hstM, habM⟩ := Cond.instanceMethod_spec hinst
  obtain ⟨m8, methM', cM, hn8, hmethM', -, -, -, -, -, -, hsigM⟩ := Cond.codeWith_spec hcode
  cases Option.some.inj (hn8.symm.trans hnamed)
  cases hmethM.symm.trans hmethM'
  obtain ⟨c2, r2, m2, q1, q2, q3, q4, kP, hkP, hkPi⟩ := Cond.selects_spec hsel
  cases hcls.symm.trans q1
  cases (State.methodFound?_of_named hnamed hy).symm.trans q2
  cases hnamed.symm.trans q3
  have hselP : selectMethod e.platform s.vm cellB.cls mk = .method mk := by rw [Launch.admits_selectMethod X.admits]; exact q4
  obtain ⟨vm₁, X₁, hstep₁⟩ := X.invokevirtual hexec hown hlink hnamed hmethM hstM hkP hkPi hy (a := b) (cell := cellB) hcell
    (fun z h => by rw [h] at hobj; cases hobj) hselP hmethM habM hkP hkPi (g := g) hg (argsL := argsL) (rest := rest) (hlen _ hsigM) hstack hdg
  obtain ⟨v, B, X', hpost, hsteps⟩ := hK m meth c ⟨T.setVm vm₁, locs, cells, slots⟩ { g with stack := rest } (.invokevirtual index) mk (Value.ref b :: argsL).toArray X₁ hg hsize hdg hW (X₁.named hnamed) (hpre vm₁ X₁.warmed)
  exact ⟨v, vm₁, B, X₁.warmed, X', hpost, fun target h => hstep₁ _ fun acts => by rw [doInvoke_state]; exact hsteps.trans h⟩
abbrev vx_CVW (R : Room) (s : State) (args : Array Value) (own C : String) (index : Nat) (y : MethodName) (bytes : ByteArray) (maxL : Nat) (ret : Option FieldType) (hh : List (Nat × Nat × Nat × Nat)) (ws : List Cond) (rm : Room) (mc ms n : Nat) : Prop :=
  (rm.cells = mc ∧ rm.slots = ms ∧ rm.frames + 1 ≤ R.frames ∧ 8 + (maxL + 11) + rm.locals ≤ R.locals ∧ (∀ w ∈ ws, ∀ (a' : Array Value) (U : State), s.WarmedH U.vm → w.before a' U = true) ∧ Cond.codeWith y bytes maxL ret hh ∈ ws) ∧
  (Cond.codeWith y bytes maxL ret hh).before args s = true ∧ (Cond.initialized y.cls).before args s = true ∧ (y.cls ≠ "java/lang/invoke/MethodHandle" ∧ y.cls ≠ "java/lang/invoke/VarHandle") ∧
  (∀ sig, parseMethodDescriptor y.desc = some sig → n = sig.parameters.length) ∧ (Cond.methodLink own index y).before args s = true ∧ (Cond.instanceMethod y).before args s = true ∧ (Cond.selects C y y).before args s = true
theorem vx_cwVW {own C : String} {index maxL mc ms : Nat} {y : MethodName} {bytes : ByteArray} {ret : Option FieldType} {hh : List (Nat × Nat × Nat × Nat)} {Ts ws ws' : List Cond} {rm : Room} (n : Nat) (ht : ∀ w ∈ Ts, w.before args s = true) (hT : GoodIn Ts (wsV own index C y ws)) (hw : ws = Cond.codeWith y bytes maxL ret hh :: ws') (hrc : rm.cells = mc) (hrs : rm.slots = ms)
    (hd : y.cls = C ∧ y.cls ≠ "java/lang/invoke/MethodHandle" ∧ y.cls ≠ "java/lang/invoke/VarHandle" ∧ (parseMethodDescriptor y.desc).map (fun d => d.parameters.length) = some n) (hR : rm.frames + 1 ≤ R.frames ∧ 8 + (maxL + 11) + rm.locals ≤ R.locals) :
    vx_CVW R s args own C index y bytes maxL ret hh ws rm mc ms n := by
  obtain ⟨hC, hd⟩ := hd
  subst hC
  have ok : ∀ w ∈ wsV own index y.cls y ws, w.before args s = true := fun w h => ht w (hT w h).1
  have hG : GoodIn Ts ws := fun w h => hT w (by unfold wsV; exact List.mem_append_right _ h)
  have hc : Cond.codeWith y bytes maxL ret hh ∈ ws := by rw [hw]; exact List.mem_cons_self
  refine ⟨⟨hrc, hrs, hR.1, hR.2, pay_in ht hG, hc⟩, ht _ (hG _ hc).1, ok _ (by simp [wsV]), ⟨hd.1, hd.2.1⟩, fun sig h => ?_, ok _ (by simp [wsV]), ok _ (by simp [wsV]), ok _ (by simp [wsV])⟩
  have h2 := hd.2.2
  rw [h] at h2
  exact (Option.some.inj h2).symm
theorem vx_runVW {y : MethodName} {bytes cc : ByteArray} {maxL nL mc ms n index : Nat} {ret : Option FieldType} {hh : List (Nat × Nat × Nat × Nat)} {ws : List Cond} {rm : Room} {Pc : Array Value → State → Prop} {Qc : Array Value → State → Outcome → State → Prop} {free : Addr → Prop} {Ts : List Cond} {own C : String} {b : Addr} {As rest : List Value} {g : JFrame}
    (S : CallFix p m c cc nL s args Ts own) (hM : Met l y ws rm Pc Qc mc ms free) (cw : vx_CVW R s args own C index y bytes maxL ret hh ws rm mc ms n) (hp : PreV s H C b Pc As)
    (hg : g.method = m) (hn : As.length = n) (hsize : g.locals.size = nL) (hstack : g.stack = As.reverse ++ .ref b :: rest) (hW : 2 * g.monitorRoom + (rest.map fun v => v.category).sum ≤ 8) (hdg : decode cc g.pc = .ok (.invokevirtual index, 3)) (hf : cells + mc ≤ R.cells ∧ slots + ms ≤ R.slots) :
    va_Run p l e R s m args below meth c H locs cells slots mc ms g rest (Qc (Value.ref b :: As).toArray) free := by
  obtain ⟨⟨hrc, hrs, hfr, hlo, hws, hcw⟩, hcode, hini, hy, hlen, hl, hin, hse⟩ := cw
  have hK : Back l R p e below s args y 3 8 (PreOf R mc ms Pc) (PostOf Qc mc ms free) := va_backW (hh := hh) (bytes := bytes) (maxL := maxL) (ret := ret) hM hp.1 hrc hrs hfr hlo hws hcw (fun a' U hW => word_at hW (Or.inl (by first | rfl | simp [Cond.onTables, Cond.keeps, Cond.steady])) hini)
  obtain ⟨hx, hb, hml, ho, -⟩ := S
  obtain ⟨-, ⟨cellB, hcB, hoB, hclB⟩, hPc⟩ := hp
  intro T hT X
  obtain ⟨v, vm₁, ⟨U', l2, c2, s2⟩, hW₁, X', ⟨g', mk, t, L, e1, e2, hq, h1, hL, h2, h3⟩, st⟩ := vx_callVW X hx (C := C) (hh := hh) (bytes := bytes) (maxL := maxL) (ret := ret) ho hl hin hse hcode hy hK (by rw [hT]; exact hcB) hoB hclB hg (hsize.trans hml.symm) (argsL := As) (rest := rest) (fun sig h => hn.trans (hlen sig h)) hstack hW (by rw [hb]; exact hdg)
    (fun vm₁ hW₁ => ⟨hf.1, hf.2, hPc (T.setVm vm₁) hT hW₁⟩)
  dsimp only [Pt.U, Pt.locs, Pt.cells, Pt.slots] at X' e1 e2 h1 h2 h3 st
  subst h1; subst h2; subst h3
  exact ⟨v, (T.setVm vm₁).calling g' mk (Value.ref b :: As).toArray, t, U', L, hT, X', hL, e1, e2, hq, st⟩
section
variable {y : MethodName} {bytes cc : ByteArray} {maxL nL mc ms n index : Nat} {ret : Option FieldType} {ws : List Cond} {rm : Room} {Pc : Array Value → State → Prop} {Qc : Array Value → State → Outcome → State → Prop} {XC : String → State → State → Prop} {free : Addr → Prop} {Ts : List Cond} {own C : String} {b : Addr} {As rest : List Value} {g : JFrame}
theorem vx_runVX {hh : List (Nat × Nat × Nat × Nat)} (S : CallFix p m c cc nL s args Ts own) (hM : vx_Met l y ws rm Pc Qc XC mc ms free) (cw : vx_CVW R s args own C index y bytes maxL ret hh ws rm mc ms n) (hp : PreV s H C b Pc As)
    (hg : g.method = m) (hn : As.length = n) (hsize : g.locals.size = nL) (hstack : g.stack = As.reverse ++ .ref b :: rest) (hW : 2 * g.monitorRoom + (rest.map fun v => v.category).sum ≤ 8) (hdg : decode cc g.pc = .ok (.invokevirtual index, 3)) (hf : cells + mc ≤ R.cells ∧ slots + ms ≤ R.slots) :
    vx_Run p l e R s m args below meth c H locs cells slots mc ms g rest (Qc (Value.ref b :: As).toArray) XC free := by
  obtain ⟨⟨hrc, hrs, hfr, hlo, hws, hcw⟩, hcode, hini, hy, hlen, hl, hin, hse⟩ := cw
  have hK : vx_Back l R p e below s args y 3 8 (PreOf R mc ms Pc) (PostOf Qc mc ms free) (vx_Post XC mc ms free) := vx_backW (hh := hh) (bytes := bytes) (maxL := maxL) (ret := ret) hM hp.1 hrc hrs hfr hlo hws hcw (fun a' U hW => word_at hW (Or.inl (by first | rfl | simp [Cond.onTables, Cond.keeps, Cond.steady])) hini)
  obtain ⟨hx, hb, hml, ho, -⟩ := S
  obtain ⟨-, ⟨cellB, hcB, hoB, hclB⟩, hPc⟩ := hp
  intro T hT X
  rcases vx_callVX X hx (C := C) (hh := hh) (bytes := bytes) (maxL := maxL) (ret := ret) ho hl hin hse hcode hy hK (by rw [hT]; exact hcB) hoB hclB hg (hsize.trans hml.symm) (argsL := As) (rest := rest) (fun sig h => hn.trans (hlen sig h)) hstack hW (by rw [hb]; exact hdg)
    (fun vm₁ hW₁ => ⟨hf.1, hf.2, hPc (T.setVm vm₁) hT hW₁⟩) with ⟨v, vm₁, ⟨U', l2, c2, s2⟩, hW₁, X', ⟨g', mk, t, L, e1, e2, hq, h1, hL, h2, h3⟩, st⟩ | ⟨q, vm₁, ⟨U', l2, c2, s2⟩, hW₁, X', ⟨g', mk, t, L, E, ce, e1, e2, hq, hce, hcv, hcl, h1, hL, h2, h3⟩, st⟩
  · dsimp only [Pt.U, Pt.locs, Pt.cells, Pt.slots] at X' e1 e2 h1 h2 h3 st
    subst h1; subst h2; subst h3
    exact Or.inl ⟨v, (T.setVm vm₁).calling g' mk (Value.ref b :: As).toArray, t, U', L, hT, X', hL, e1, e2, hq, st⟩
  · dsimp only [Pt.U, Pt.locs, Pt.cells, Pt.slots] at X' e1 e2 h1 h2 h3 st hcl
    subst h1; subst h2; subst h3
    exact Or.inr ⟨q, (T.setVm vm₁).calling g' mk (Value.ref b :: As).toArray, t, U', L, E, ce, hT, X', hL, e1, e2, hq, hce, hcv, vx_cls hW₁ hcl, st⟩
theorem vx_runSX {hh : List (Nat × Nat × Nat × Nat)} (S : CallFix p m c cc nL s args Ts own) (hM : vx_Met l y ws rm Pc Qc XC mc ms free) (cw : vx_CSW R s args own index y bytes maxL ret hh ws rm mc ms n) (hp : PreS s H Pc As)
    (hg : g.method = m) (hn : As.length = n) (hsize : g.locals.size = nL) (hstack : g.stack = As.reverse ++ rest) (hW : 2 * g.monitorRoom + (rest.map fun v => v.category).sum ≤ 8) (hdg : decode cc g.pc = .ok (.invokestatic index, 3)) (hf : cells + mc ≤ R.cells ∧ slots + ms ≤ R.slots) :
    vx_Run p l e R s m args below meth c H locs cells slots mc ms g rest (Qc As.toArray) XC free := by
  obtain ⟨⟨hrc, hrs, hfr, hlo, hws, hcw⟩, hcode, hini, hy, hlen, hl, hstt⟩ := cw
  have hK : vx_Back l R p e below s args y 3 8 (PreOf R mc ms Pc) (PostOf Qc mc ms free) (vx_Post XC mc ms free) := vx_backW (hh := hh) (bytes := bytes) (maxL := maxL) (ret := ret) hM hp.1 hrc hrs hfr hlo hws hcw (fun a' U hW => word_at hW (Or.inl (by first | rfl | simp [Cond.onTables, Cond.keeps, Cond.steady])) hini)
  obtain ⟨hx, hb, hml, ho, -⟩ := S
  intro T hT X
  rcases vx_callSX X hx (hh := hh) (bytes := bytes) (maxL := maxL) (ret := ret) ho hl hstt hini hcode hy hK hg (hsize.trans hml.symm) (argsL := As) (rest := rest) (fun sig h => hn.trans (hlen sig h)) hstack hW (by rw [hb]; exact hdg)
    (fun vm₁ hW₁ => ⟨hf.1, hf.2, hp.2 (T.setVm vm₁) hT hW₁⟩) with ⟨v, vm₁, ⟨U', l2, c2, s2⟩, hW₁, X', ⟨g', mk, t, L, e1, e2, hq, h1, hL, h2, h3⟩, st⟩ | ⟨q, vm₁, ⟨U', l2, c2, s2⟩, hW₁, X', ⟨g', mk, t, L, E, ce, e1, e2, hq, hce, hcv, hcl, h1, hL, h2, h3⟩, st⟩
  · dsimp only [Pt.U, Pt.locs, Pt.cells, Pt.slots] at X' e1 e2 h1 h2 h3 st
    subst h1; subst h2; subst h3
    exact Or.inl ⟨v, (T.setVm vm₁).calling g' mk As.toArray, t, U', L, hT, X', hL, e1, e2, hq, st⟩
  · dsimp only [Pt.U, Pt.locs, Pt.cells, Pt.slots] at X' e1 e2 h1 h2 h3 st hcl
    subst h1; subst h2; subst h3
    exact Or.inr ⟨q, (T.setVm vm₁).calling g' mk As.toArray, t, U', L, E, ce, hT, X', hL, e1, e2, hq, hce, hcv, vx_cls hW₁ hcl, st⟩
end
end VXH
theorem vx_ofWH {l : Launch} {y : MethodName} {ws ws' : List Cond} {rm : Room} {Pc : Array Value → State → Prop} {Qc : Array Value → State → Outcome → State → Prop} {XC : String → State → State → Prop} {mc ms : Nat} {free : Addr → Prop} {cc : ByteArray} {maxL : Nat} {ret : Option FieldType} {hh : List (Nat × Nat × Nat × Nat)}
    (hy : plainName y.cls = true) (hw : ws = Cond.codeWith y cc maxL ret hh :: ws')
    (body : ∀ p e s m args below meth c s₁, BodyLoose p l y (headSpec ws rm) cc maxL ret e s m args below meth c s₁ → c.maxLocals = maxL → Pc args s →
      W p l e (headSpec ws rm).room s m args below meth c s.heap [] 0 0 (vx_MQ below Qc XC args s mc ms free) (entryFrame m args maxL)) : vx_Met l y ws rm Pc Qc XC mc ms free := by
  refine MetFree.of_bodyS (code := cc) (maxLocals := maxL) (ret := ret) hy ?_ ?_
  · intro args s m h hn
    obtain ⟨m9, meth, c, hn9, h1, h2, h3, h4, -, h5, h6, -⟩ := Cond.codeWith_spec (atoms_spec (ws := ws) h _ (by rw [hw]; exact List.mem_cons_self))
    cases hn.symm.trans hn9
    exact ⟨meth, c, h1, h2, h3, h4, h5, h6⟩
  · intro p e s m args below meth c s₁ B hml hP _
    have hh0 : s₁.heap = s.heap := by rw [B.state]; rfl
    obtain ⟨t, a1, o, b1, b2, b3⟩ := body p e s m args below meth c s₁ B hml hP s₁ hh0 (Stand.of_body B)
    exact ⟨t, o, a1, b1, b2, b3⟩
/-! ===== END ===== -/
end
section
def RX0 : String := "BowingRow$Call"
def TX0 : u_T := fun k => match k with
  | 0 => ("BowingRow$Call", "row", "[I", true)
  | 1 => ("BowingRow$Call", "size", "I", false)
  | 2 => ("BowingRow$Call", "there", "I", false)
  | 3 => ("BowingRow$Call", "minute", "I", false)
  | 4 => ("BowingRow$Call", "offers", "I", false)
  | 5 => ("BowingRow$Call", "goer", "I", false)
  | 6 => ("BowingRow$Call", "end", "I", false)
  | _ => ("BowingRow$Call", "unasked", "Z", false)
def tyX0 : Nat → FieldType := fun k => match k with
  | 0 => .array .int
  | 1 => .int
  | 2 => .int
  | 3 => .int
  | 4 => .int
  | 5 => .int
  | 6 => .int
  | _ => .boolean
abbrev wsX00 : List Cond := u_ws RX0 TX0 8
theorem nmX0 : ∀ a, a < 8 → ∀ b, b < 8 → a ≠ b → (TX0 a).2.1 ≠ (TX0 b).2.1 := by decide +kernel
theorem tyX0_ok : ∀ k, k < 8 → parseFieldDescriptor (TX0 k).2.2.1 = some (tyX0 k) := by decide +kernel
abbrev cX0_init : ByteArray := prog_2_method_1_code
def yX0_init : MethodName := ⟨RX0, "<init>", "()V"⟩
abbrev cX0_gather : ByteArray := prog_2_method_2_code
def yX0_gather : MethodName := ⟨RX0, "gather", "(LBowingRow$People;II)V"⟩
abbrev cX0_dueOne : ByteArray := prog_2_method_3_code
def yX0_dueOne : MethodName := ⟨RX0, "dueOne", "([II)I"⟩
def RX1 : String := "BowingRow$Day"
def TX1 : u_T := fun k => match k with
  | 0 => ("BowingRow$Day", "people", "LBowingRow$People;", false)
  | 1 => ("BowingRow$Day", "inForce", "LBowingRow$InForce;", false)
  | 2 => ("BowingRow$Day", "ways", "[I", true)
  | 3 => ("BowingRow$Day", "planner", "I", false)
  | 4 => ("BowingRow$Day", "planBits", "I", false)
  | 5 => ("BowingRow$Day", "planTimes", "I", false)
  | 6 => ("BowingRow$Day", "turner", "I", false)
  | 7 => ("BowingRow$Day", "turnCall", "I", false)
  | 8 => ("BowingRow$Day", "turnWay", "I", false)
  | 9 => ("BowingRow$Day", "calls", "[LBowingRow$Call;", true)
  | 10 => ("BowingRow$Day", "callCount", "I", false)
  | 11 => ("BowingRow$Day", "endOf", "[I", true)
  | 12 => ("BowingRow$Day", "passBook", "LBowingRow$PassBook;", true)
  | 13 => ("BowingRow$Day", "served", "I", false)
  | 14 => ("BowingRow$Day", "endless", "Z", false)
  | 15 => ("BowingRow$Day", "free", "I", false)
  | _ => ("BowingRow$Day", "stale", "Z", false)
def tyX1 : Nat → FieldType := fun k => match k with
  | 0 => .object "BowingRow$People"
  | 1 => .object "BowingRow$InForce"
  | 2 => .array .int
  | 3 => .int
  | 4 => .int
  | 5 => .int
  | 6 => .int
  | 7 => .int
  | 8 => .int
  | 9 => .array (.object "BowingRow$Call")
  | 10 => .int
  | 11 => .array .int
  | 12 => .object "BowingRow$PassBook"
  | 13 => .int
  | 14 => .boolean
  | 15 => .int
  | _ => .boolean
abbrev wsX10 : List Cond := u_ws RX1 TX1 17
theorem nmX1 : ∀ a, a < 17 → ∀ b, b < 17 → a ≠ b → (TX1 a).2.1 ≠ (TX1 b).2.1 := by decide +kernel
theorem tyX1_ok : ∀ k, k < 17 → parseFieldDescriptor (TX1 k).2.2.1 = some (tyX1 k) := by decide +kernel
abbrev cX1_init : ByteArray := prog_3_method_1_code
def yX1_init : MethodName := ⟨RX1, "<init>", "(LBowingRow$People;LBowingRow$InForce;)V"⟩
abbrev cX1_prepare : ByteArray := prog_3_method_2_code
def yX1_prepare : MethodName := ⟨RX1, "prepare", "(LBowingRow$People;LBowingRow$InForce;)V"⟩
abbrev cX1_goThrough : ByteArray := prog_3_method_3_code
def yX1_goThrough : MethodName := ⟨RX1, "goThrough", "()V"⟩
abbrev cX1_openCall : ByteArray := prog_3_method_4_code
def yX1_openCall : MethodName := ⟨RX1, "openCall", "(LBowingRow$Call;)Z"⟩
abbrev cX1_handAlong : ByteArray := prog_3_method_5_code
def yX1_handAlong : MethodName := ⟨RX1, "handAlong", "(LBowingRow$Call;)V"⟩
abbrev cX1_offersPlace : ByteArray := prog_3_method_6_code
def yX1_offersPlace : MethodName := ⟨RX1, "offersPlace", "(LBowingRow$Call;II)Z"⟩
abbrev cX1_offersByPlan : ByteArray := prog_3_method_7_code
def yX1_offersByPlan : MethodName := ⟨RX1, "offersByPlan", "()Z"⟩
abbrev cX1_offersByWay : ByteArray := prog_3_method_8_code
def yX1_offersByWay : MethodName := ⟨RX1, "offersByWay", "(II)Z"⟩
abbrev cX1_endCall : ByteArray := prog_3_method_9_code
def yX1_endCall : MethodName := ⟨RX1, "endCall", "(LBowingRow$Call;)V"⟩
abbrev cX1_letPass : ByteArray := prog_3_method_10_code
def yX1_letPass : MethodName := ⟨RX1, "letPass", "(LBowingRow$Call;)V"⟩
abbrev cX1_allOffers : ByteArray := prog_3_method_11_code
def yX1_allOffers : MethodName := ⟨RX1, "allOffers", "()I"⟩
abbrev cX1_unaskedCalls : ByteArray := prog_3_method_12_code
def yX1_unaskedCalls : MethodName := ⟨RX1, "unaskedCalls", "()I"⟩
abbrev cX1_lastEnd : ByteArray := prog_3_method_13_code
def yX1_lastEnd : MethodName := ⟨RX1, "lastEnd", "()I"⟩
def RX2 : String := "BowingRow$Image"
def TX2 : u_T := fun k => match k with
  | 0 => ("BowingRow$Image", "ways", "[I", true)
  | 1 => ("BowingRow$Image", "untils", "[I", true)
  | 2 => ("BowingRow$Image", "servedRow", "[I", true)
  | _ => ("BowingRow$Image", "servedSize", "I", false)
def tyX2 : Nat → FieldType := fun k => match k with
  | 0 => .array .int
  | 1 => .array .int
  | 2 => .array .int
  | _ => .int
abbrev wsX20 : List Cond := u_ws RX2 TX2 4
theorem nmX2 : ∀ a, a < 4 → ∀ b, b < 4 → a ≠ b → (TX2 a).2.1 ≠ (TX2 b).2.1 := by decide +kernel
theorem tyX2_ok : ∀ k, k < 4 → parseFieldDescriptor (TX2 k).2.2.1 = some (tyX2 k) := by decide +kernel
abbrev cX2_init : ByteArray := prog_4_method_1_code
def yX2_init : MethodName := ⟨RX2, "<init>", "()V"⟩
abbrev cX2_take : ByteArray := prog_4_method_2_code
def yX2_take : MethodName := ⟨RX2, "take", "(LBowingRow$People;[II)V"⟩
abbrev cX2_putBack : ByteArray := prog_4_method_3_code
def yX2_putBack : MethodName := ⟨RX2, "putBack", "(LBowingRow$People;[I)I"⟩
def RX3 : String := "BowingRow$InForce"
def TX3 : u_T := fun k => match k with
  | 0 => ("BowingRow$InForce", "numbers", "[I", true)
  | 1 => ("BowingRow$InForce", "law", "LBowingRow$Law;", false)
  | 2 => ("BowingRow$InForce", "people", "LBowingRow$People;", false)
  | 3 => ("BowingRow$InForce", "mustSaid", "[B", true)
  | 4 => ("BowingRow$InForce", "worthSaid", "[B", true)
  | 5 => ("BowingRow$InForce", "mustAsked", "I", false)
  | _ => ("BowingRow$InForce", "worthAsked", "I", false)
def tyX3 : Nat → FieldType := fun k => match k with
  | 0 => .array .int
  | 1 => .object "BowingRow$Law"
  | 2 => .object "BowingRow$People"
  | 3 => .array .byte
  | 4 => .array .byte
  | 5 => .int
  | _ => .int
abbrev wsX30 : List Cond := u_ws RX3 TX3 7
theorem nmX3 : ∀ a, a < 7 → ∀ b, b < 7 → a ≠ b → (TX3 a).2.1 ≠ (TX3 b).2.1 := by decide +kernel
theorem tyX3_ok : ∀ k, k < 7 → parseFieldDescriptor (TX3 k).2.2.1 = some (tyX3 k) := by decide +kernel
abbrev cX3_init : ByteArray := prog_5_method_1_code
def yX3_init : MethodName := ⟨RX3, "<init>", "(LBowingRow$Law;LBowingRow$People;)V"⟩
abbrev cX3_setWithout : ByteArray := prog_5_method_2_code
def yX3_setWithout : MethodName := ⟨RX3, "setWithout", "()V"⟩
abbrev cX3_take : ByteArray := prog_5_method_3_code
def yX3_take : MethodName := ⟨RX3, "take", "(LBowingRow$Law;LBowingRow$People;I)V"⟩
abbrev cX3_forgetAnswers : ByteArray := prog_5_method_4_code
def yX3_forgetAnswers : MethodName := ⟨RX3, "forgetAnswers", "()V"⟩
abbrev cX3_mustOffer : ByteArray := prog_5_method_5_code
def yX3_mustOffer : MethodName := ⟨RX3, "mustOffer", "(III)Z"⟩
abbrev cX3_passWorth : ByteArray := prog_5_method_6_code
def yX3_passWorth : MethodName := ⟨RX3, "passWorth", "(III)I"⟩
def RX4 : String := "BowingRow$Law"
def TX4 : u_T := fun k => match k with
  | 0 => ("BowingRow$Law", "kinds", "[I", true)
  | 1 => ("BowingRow$Law", "numbers", "[I", true)
  | 2 => ("BowingRow$Law", "from", "[I", true)
  | 3 => ("BowingRow$Law", "to", "[I", true)
  | 4 => ("BowingRow$Law", "steps", "[I", true)
  | 5 => ("BowingRow$Law", "waiting", "[I", true)
  | 6 => ("BowingRow$Law", "stepCount", "I", false)
  | _ => ("BowingRow$Law", "count", "I", false)
def tyX4 : Nat → FieldType := fun k => match k with
  | 0 => .array .int
  | 1 => .array .int
  | 2 => .array .int
  | 3 => .array .int
  | 4 => .array .int
  | 5 => .array .int
  | 6 => .int
  | _ => .int
abbrev wsX40 : List Cond := u_ws RX4 TX4 8
theorem nmX4 : ∀ a, a < 8 → ∀ b, b < 8 → a ≠ b → (TX4 a).2.1 ≠ (TX4 b).2.1 := by decide +kernel
theorem tyX4_ok : ∀ k, k < 8 → parseFieldDescriptor (TX4 k).2.2.1 = some (tyX4 k) := by decide +kernel
abbrev cX4_init : ByteArray := prog_6_method_1_code
def yX4_init : MethodName := ⟨RX4, "<init>", "()V"⟩
abbrev cX4_readRules : ByteArray := prog_6_method_2_code
def yX4_readRules : MethodName := ⟨RX4, "readRules", "(LBowingRow$Tokens;)Z"⟩
abbrev cX4_readRule : ByteArray := prog_6_method_3_code
def yX4_readRule : MethodName := ⟨RX4, "readRule", "(LBowingRow$Tokens;)Z"⟩
abbrev cX4_addStep : ByteArray := prog_6_method_4_code
def yX4_addStep : MethodName := ⟨RX4, "addStep", "(I)V"⟩
abbrev cX4_readJoined : ByteArray := prog_6_method_5_code
def yX4_readJoined : MethodName := ⟨RX4, "readJoined", "(LBowingRow$Tokens;LBowingRow$Word;I)Z"⟩
abbrev cX4_readClaim : ByteArray := prog_6_method_6_code
def yX4_readClaim : MethodName := ⟨RX4, "readClaim", "(LBowingRow$Tokens;I)Z"⟩
abbrev cX4_readSum : ByteArray := prog_6_method_7_code
def yX4_readSum : MethodName := ⟨RX4, "readSum", "(LBowingRow$Tokens;CCI)Z"⟩
abbrev cX4_readOperand : ByteArray := prog_6_method_8_code
def yX4_readOperand : MethodName := ⟨RX4, "readOperand", "(LBowingRow$Tokens;I)Z"⟩
abbrev cX4_stepFor : ByteArray := prog_6_method_9_code
def yX4_stepFor : MethodName := ⟨RX4, "stepFor", "(I)I"⟩
abbrev cX4_valueOf : ByteArray := prog_6_method_10_code
def yX4_valueOf : MethodName := ⟨RX4, "valueOf", "(ILBowingRow$People;III)I"⟩
abbrev cX4_joined : ByteArray := prog_6_method_11_code
def yX4_joined : MethodName := ⟨RX4, "joined", "(III)I"⟩
def RX5 : String := "BowingRow$PassBook"
def TX5 : u_T := fun k => match k with
  | 0 => ("BowingRow$PassBook", "givers", "[I", true)
  | 1 => ("BowingRow$PassBook", "takers", "[I", true)
  | 2 => ("BowingRow$PassBook", "worths", "[I", true)
  | 3 => ("BowingRow$PassBook", "minutes", "[I", true)
  | 4 => ("BowingRow$PassBook", "debts", "[I", true)
  | 5 => ("BowingRow$PassBook", "balances", "[I", true)
  | _ => ("BowingRow$PassBook", "size", "I", false)
def tyX5 : Nat → FieldType := fun k => match k with
  | 0 => .array .int
  | 1 => .array .int
  | 2 => .array .int
  | 3 => .array .int
  | 4 => .array .int
  | 5 => .array .int
  | _ => .int
abbrev wsX50 : List Cond := u_ws RX5 TX5 7
theorem nmX5 : ∀ a, a < 7 → ∀ b, b < 7 → a ≠ b → (TX5 a).2.1 ≠ (TX5 b).2.1 := by decide +kernel
theorem tyX5_ok : ∀ k, k < 7 → parseFieldDescriptor (TX5 k).2.2.1 = some (tyX5 k) := by decide +kernel
abbrev cX5_init : ByteArray := prog_7_method_1_code
def yX5_init : MethodName := ⟨RX5, "<init>", "()V"⟩
abbrev cX5_write : ByteArray := prog_7_method_2_code
def yX5_write : MethodName := ⟨RX5, "write", "(IIII)V"⟩
abbrev cX5_balanceAt : ByteArray := prog_7_method_3_code
def yX5_balanceAt : MethodName := ⟨RX5, "balanceAt", "(II)V"⟩
abbrev cX5_given : ByteArray := prog_7_method_4_code
def yX5_given : MethodName := ⟨RX5, "given", "(II)I"⟩
abbrev cX5_debt : ByteArray := prog_7_method_5_code
def yX5_debt : MethodName := ⟨RX5, "debt", "(II)I"⟩
abbrev cX5_setOffRound : ByteArray := prog_7_method_6_code
def yX5_setOffRound : MethodName := ⟨RX5, "setOffRound", "()Z"⟩
abbrev cX5_setOff : ByteArray := prog_7_method_7_code
def yX5_setOff : MethodName := ⟨RX5, "setOff", "(III)Z"⟩
def RX6 : String := "BowingRow$People"
def TX6 : u_T := fun k => match k with
  | 0 => ("BowingRow$People", "facts", "[I", true)
  | 1 => ("BowingRow$People", "byMinute", "[I", true)
  | _ => ("BowingRow$People", "count", "I", false)
def tyX6 : Nat → FieldType := fun k => match k with
  | 0 => .array .int
  | 1 => .array .int
  | _ => .int
abbrev wsX60 : List Cond := u_ws RX6 TX6 3
theorem nmX6 : ∀ a, a < 3 → ∀ b, b < 3 → a ≠ b → (TX6 a).2.1 ≠ (TX6 b).2.1 := by decide +kernel
theorem tyX6_ok : ∀ k, k < 3 → parseFieldDescriptor (TX6 k).2.2.1 = some (tyX6 k) := by decide +kernel
abbrev cX6_init : ByteArray := prog_8_method_1_code
def yX6_init : MethodName := ⟨RX6, "<init>", "()V"⟩
abbrev cX6_fact : ByteArray := prog_8_method_2_code
def yX6_fact : MethodName := ⟨RX6, "fact", "(II)I"⟩
abbrev cX6_setFact : ByteArray := prog_8_method_3_code
def yX6_setFact : MethodName := ⟨RX6, "setFact", "(III)V"⟩
abbrev cX6_readClauses : ByteArray := prog_8_method_4_code
def yX6_readClauses : MethodName := ⟨RX6, "readClauses", "(LBowingRow$Tokens;)Z"⟩
abbrev cX6_readClause : ByteArray := prog_8_method_5_code
def yX6_readClause : MethodName := ⟨RX6, "readClause", "(LBowingRow$Tokens;I)Z"⟩
abbrev cX6_readPerson : ByteArray := prog_8_method_6_code
def yX6_readPerson : MethodName := ⟨RX6, "readPerson", "(LBowingRow$Tokens;)Z"⟩
abbrev cX6_readKnows : ByteArray := prog_8_method_7_code
def yX6_readKnows : MethodName := ⟨RX6, "readKnows", "(LBowingRow$Tokens;)Z"⟩
abbrev cX6_readHabit : ByteArray := prog_8_method_8_code
def yX6_readHabit : MethodName := ⟨RX6, "readHabit", "(LBowingRow$Tokens;LBowingRow$Word;)Z"⟩
abbrev cX6_lineUp : ByteArray := prog_8_method_9_code
def yX6_lineUp : MethodName := ⟨RX6, "lineUp", "()V"⟩
abbrev cX6_nextMinute : ByteArray := prog_8_method_10_code
def yX6_nextMinute : MethodName := ⟨RX6, "nextMinute", "(I)I"⟩
def RX7 : String := "BowingRow$Strikes"
def TX7 : u_T := fun k => match k with
  | 0 => ("BowingRow$Strikes", "stale", "Z", false)
  | 1 => ("BowingRow$Strikes", "bits", "I", false)
  | _ => ("BowingRow$Strikes", "neverServed", "I", false)
def tyX7 : Nat → FieldType := fun k => match k with
  | 0 => .boolean
  | 1 => .int
  | _ => .int
abbrev wsX70 : List Cond := u_ws RX7 TX7 3
theorem nmX7 : ∀ a, a < 3 → ∀ b, b < 3 → a ≠ b → (TX7 a).2.1 ≠ (TX7 b).2.1 := by decide +kernel
theorem tyX7_ok : ∀ k, k < 3 → parseFieldDescriptor (TX7 k).2.2.1 = some (tyX7 k) := by decide +kernel
abbrev cX7_init : ByteArray := prog_9_method_1_code
def yX7_init : MethodName := ⟨RX7, "<init>", "()V"⟩
abbrev cX7_work : ByteArray := prog_9_method_2_code
def yX7_work : MethodName := ⟨RX7, "work", "(LBowingRow$Law;LBowingRow$People;LBowingRow$InForce;LBowingRow$Day;)V"⟩
def RX8 : String := "BowingRow$Tokens"
def TX8 : u_T := fun k => match k with
  | 0 => ("BowingRow$Tokens", "kinds", "[I", true)
  | 1 => ("BowingRow$Tokens", "values", "[I", true)
  | 2 => ("BowingRow$Tokens", "places", "[I", true)
  | 3 => ("BowingRow$Tokens", "words", "[LBowingRow$Word;", true)
  | 4 => ("BowingRow$Tokens", "size", "I", false)
  | 5 => ("BowingRow$Tokens", "at", "I", false)
  | 6 => ("BowingRow$Tokens", "fault", "I", false)
  | _ => ("BowingRow$Tokens", "faultPlace", "I", false)
def tyX8 : Nat → FieldType := fun k => match k with
  | 0 => .array .int
  | 1 => .array .int
  | 2 => .array .int
  | 3 => .array (.object "BowingRow$Word")
  | 4 => .int
  | 5 => .int
  | 6 => .int
  | _ => .int
abbrev wsX80 : List Cond := u_ws RX8 TX8 8
theorem nmX8 : ∀ a, a < 8 → ∀ b, b < 8 → a ≠ b → (TX8 a).2.1 ≠ (TX8 b).2.1 := by decide +kernel
theorem tyX8_ok : ∀ k, k < 8 → parseFieldDescriptor (TX8 k).2.2.1 = some (tyX8 k) := by decide +kernel
abbrev cX8_init : ByteArray := prog_10_method_1_code
def yX8_init : MethodName := ⟨RX8, "<init>", "()V"⟩
abbrev cX8_cut : ByteArray := prog_10_method_2_code
def yX8_cut : MethodName := ⟨RX8, "cut", "([BI)V"⟩
abbrev cX8_cutOne : ByteArray := prog_10_method_3_code
def yX8_cutOne : MethodName := ⟨RX8, "cutOne", "([BII)I"⟩
abbrev cX8_isDigit : ByteArray := prog_10_method_4_code
def yX8_isDigit : MethodName := ⟨RX8, "isDigit", "(B)Z"⟩
abbrev cX8_isLetter : ByteArray := prog_10_method_5_code
def yX8_isLetter : MethodName := ⟨RX8, "isLetter", "(B)Z"⟩
abbrev cX8_wordFor : ByteArray := prog_10_method_6_code
def yX8_wordFor : MethodName := ⟨RX8, "wordFor", "([BII)LBowingRow$Word;"⟩
abbrev cX8_atEnd : ByteArray := prog_10_method_7_code
def yX8_atEnd : MethodName := ⟨RX8, "atEnd", "()Z"⟩
abbrev cX8_here : ByteArray := prog_10_method_8_code
def yX8_here : MethodName := ⟨RX8, "here", "()LBowingRow$Word;"⟩
abbrev cX8_signHere : ByteArray := prog_10_method_9_code
def yX8_signHere : MethodName := ⟨RX8, "signHere", "()I"⟩
abbrev cX8_isNumber : ByteArray := prog_10_method_10_code
def yX8_isNumber : MethodName := ⟨RX8, "isNumber", "(I)Z"⟩
abbrev cX8_goOn : ByteArray := prog_10_method_11_code
def yX8_goOn : MethodName := ⟨RX8, "goOn", "()V"⟩
abbrev cX8_takeSign : ByteArray := prog_10_method_12_code
def yX8_takeSign : MethodName := ⟨RX8, "takeSign", "(C)Z"⟩
abbrev cX8_takeNumber : ByteArray := prog_10_method_13_code
def yX8_takeNumber : MethodName := ⟨RX8, "takeNumber", "(II)I"⟩
abbrev cX8_fail : ByteArray := prog_10_method_14_code
def yX8_fail : MethodName := ⟨RX8, "fail", "(I)Z"⟩
def RX9 : String := "BowingRow$WayRows"
def TX9 : u_T := fun k => match k with
  | 0 => ("BowingRow$WayRows", "ends", "[I", false)
  | 1 => ("BowingRow$WayRows", "stale", "Z", false)
  | 2 => ("BowingRow$WayRows", "restCount", "I", false)
  | 3 => ("BowingRow$WayRows", "firstRest", "I", false)
  | 4 => ("BowingRow$WayRows", "politeRow", "I", false)
  | _ => ("BowingRow$WayRows", "politeSum", "I", false)
def tyX9 : Nat → FieldType := fun k => match k with
  | 0 => .array .int
  | 1 => .boolean
  | 2 => .int
  | 3 => .int
  | 4 => .int
  | _ => .int
abbrev wsX90 : List Cond := u_ws RX9 TX9 6
theorem nmX9 : ∀ a, a < 6 → ∀ b, b < 6 → a ≠ b → (TX9 a).2.1 ≠ (TX9 b).2.1 := by decide +kernel
theorem tyX9_ok : ∀ k, k < 6 → parseFieldDescriptor (TX9 k).2.2.1 = some (tyX9 k) := by decide +kernel
abbrev cX9_init : ByteArray := prog_11_method_1_code
def yX9_init : MethodName := ⟨RX9, "<init>", "()V"⟩
abbrev cX9_work : ByteArray := prog_11_method_2_code
def yX9_work : MethodName := ⟨RX9, "work", "(LBowingRow$People;LBowingRow$InForce;LBowingRow$Day;)V"⟩
abbrev cX9_setWays : ByteArray := prog_11_method_3_code
def yX9_setWays : MethodName := ⟨RX9, "setWays", "([III)V"⟩
abbrev cX9_keepEnds : ByteArray := prog_11_method_4_code
def yX9_keepEnds : MethodName := ⟨RX9, "keepEnds", "([III)V"⟩
abbrev cX9_findRests : ByteArray := prog_11_method_5_code
def yX9_findRests : MethodName := ⟨RX9, "findRests", "(II)V"⟩
abbrev cX9_isRest : ByteArray := prog_11_method_6_code
def yX9_isRest : MethodName := ⟨RX9, "isRest", "(II)Z"⟩
def RX10 : String := "BowingRow$Word"
def TX10 : u_T := fun k => match k with
  | _ => ("", "", "", false)
def tyX10 : Nat → FieldType := fun k => match k with
  | _ => .int
abbrev wsX100 : List Cond := u_ws RX10 TX10 0
theorem nmX10 : ∀ a, a < 0 → ∀ b, b < 0 → a ≠ b → (TX10 a).2.1 ≠ (TX10 b).2.1 := by decide +kernel
theorem tyX10_ok : ∀ k, k < 0 → parseFieldDescriptor (TX10 k).2.2.1 = some (tyX10 k) := by decide +kernel
def RX11 : String := "BowingRow"
def TX11 : u_T := fun k => match k with
  | 0 => ("BowingRow", "tape", "[B", true)
  | 1 => ("BowingRow", "tapeSize", "I", false)
  | 2 => ("BowingRow", "tokens", "LBowingRow$Tokens;", true)
  | 3 => ("BowingRow", "faultPlace", "I", false)
  | 4 => ("BowingRow", "people", "LBowingRow$People;", false)
  | 5 => ("BowingRow", "sparePeople", "LBowingRow$People;", false)
  | 6 => ("BowingRow", "law", "LBowingRow$Law;", false)
  | 7 => ("BowingRow", "spareLaw", "LBowingRow$Law;", false)
  | 8 => ("BowingRow", "inForce", "LBowingRow$InForce;", true)
  | 9 => ("BowingRow", "partly", "LBowingRow$InForce;", true)
  | 10 => ("BowingRow", "today", "LBowingRow$Day;", true)
  | 11 => ("BowingRow", "trial", "LBowingRow$Day;", true)
  | 12 => ("BowingRow", "wayRows", "LBowingRow$WayRows;", true)
  | 13 => ("BowingRow", "strikes", "LBowingRow$Strikes;", true)
  | 14 => ("BowingRow", "servedRow", "[I", true)
  | 15 => ("BowingRow", "servedSize", "I", false)
  | 16 => ("BowingRow", "images", "[LBowingRow$Image;", true)
  | _ => ("BowingRow", "imageCount", "I", false)
def tyX11 : Nat → FieldType := fun k => match k with
  | 0 => .array .byte
  | 1 => .int
  | 2 => .object "BowingRow$Tokens"
  | 3 => .int
  | 4 => .object "BowingRow$People"
  | 5 => .object "BowingRow$People"
  | 6 => .object "BowingRow$Law"
  | 7 => .object "BowingRow$Law"
  | 8 => .object "BowingRow$InForce"
  | 9 => .object "BowingRow$InForce"
  | 10 => .object "BowingRow$Day"
  | 11 => .object "BowingRow$Day"
  | 12 => .object "BowingRow$WayRows"
  | 13 => .object "BowingRow$Strikes"
  | 14 => .array .int
  | 15 => .int
  | 16 => .array (.object "BowingRow$Image")
  | _ => .int
abbrev wsX110 : List Cond := u_ws RX11 TX11 18
theorem nmX11 : ∀ a, a < 18 → ∀ b, b < 18 → a ≠ b → (TX11 a).2.1 ≠ (TX11 b).2.1 := by decide +kernel
theorem tyX11_ok : ∀ k, k < 18 → parseFieldDescriptor (TX11 k).2.2.1 = some (tyX11 k) := by decide +kernel
abbrev cX11_init : ByteArray := prog_1_method_1_code
def yX11_init : MethodName := ⟨RX11, "<init>", "()V"⟩
abbrev cX11_feed : ByteArray := prog_1_method_2_code
def yX11_feed : MethodName := ⟨RX11, "feed", "(IIIII)I"⟩
abbrev cX11_row : ByteArray := prog_1_method_3_code
def yX11_row : MethodName := ⟨RX11, "row", "(I)I"⟩
abbrev cX11_law : ByteArray := prog_1_method_4_code
def yX11_law : MethodName := ⟨RX11, "law", "(I)I"⟩
abbrev cX11_fault : ByteArray := prog_1_method_5_code
def yX11_fault : MethodName := ⟨RX11, "fault", "()I"⟩
abbrev cX11_told : ByteArray := prog_1_method_6_code
def yX11_told : MethodName := ⟨RX11, "told", "(I)I"⟩
abbrev cX11_person : ByteArray := prog_1_method_7_code
def yX11_person : MethodName := ⟨RX11, "person", "(II)I"⟩
abbrev cX11_way : ByteArray := prog_1_method_8_code
def yX11_way : MethodName := ⟨RX11, "way", "(II)I"⟩
abbrev cX11_until : ByteArray := prog_1_method_9_code
def yX11_until : MethodName := ⟨RX11, "until", "(II)I"⟩
abbrev cX11_must : ByteArray := prog_1_method_10_code
def yX11_must : MethodName := ⟨RX11, "must", "(III)Z"⟩
abbrev cX11_worth : ByteArray := prog_1_method_11_code
def yX11_worth : MethodName := ⟨RX11, "worth", "(III)I"⟩
abbrev cX11_day : ByteArray := prog_1_method_12_code
def yX11_day : MethodName := ⟨RX11, "day", "(I)I"⟩
abbrev cX11_call : ByteArray := prog_1_method_13_code
def yX11_call : MethodName := ⟨RX11, "call", "(II)I"⟩
abbrev cX11_holder : ByteArray := prog_1_method_14_code
def yX11_holder : MethodName := ⟨RX11, "holder", "(II)I"⟩
abbrev cX11_ends : ByteArray := prog_1_method_15_code
def yX11_ends : MethodName := ⟨RX11, "ends", "(I)I"⟩
abbrev cX11_balance : ByteArray := prog_1_method_16_code
def yX11_balance : MethodName := ⟨RX11, "balance", "(I)I"⟩
abbrev cX11_book : ByteArray := prog_1_method_17_code
def yX11_book : MethodName := ⟨RX11, "book", "(II)I"⟩
abbrev cX11_owed : ByteArray := prog_1_method_18_code
def yX11_owed : MethodName := ⟨RX11, "owed", "(II)I"⟩
abbrev cX11_tell : ByteArray := prog_1_method_19_code
def yX11_tell : MethodName := ⟨RX11, "tell", "(I)I"⟩
abbrev cX11_forget : ByteArray := prog_1_method_20_code
def yX11_forget : MethodName := ⟨RX11, "forget", "()I"⟩
abbrev cX11_judge : ByteArray := prog_1_method_21_code
def yX11_judge : MethodName := ⟨RX11, "judge", "()I"⟩
abbrev cX11_again : ByteArray := prog_1_method_22_code
def yX11_again : MethodName := ⟨RX11, "again", "(III)I"⟩
abbrev cX11_plan : ByteArray := prog_1_method_23_code
def yX11_plan : MethodName := ⟨RX11, "plan", "(II)I"⟩
abbrev cX11_best : ByteArray := prog_1_method_24_code
def yX11_best : MethodName := ⟨RX11, "best", "(II)I"⟩
abbrev cX11_gain : ByteArray := prog_1_method_25_code
def yX11_gain : MethodName := ⟨RX11, "gain", "(II)I"⟩
abbrev cX11_rest : ByteArray := prog_1_method_26_code
def yX11_rest : MethodName := ⟨RX11, "rest", "(I)I"⟩
abbrev cX11_polite : ByteArray := prog_1_method_27_code
def yX11_polite : MethodName := ⟨RX11, "polite", "(I)I"⟩
abbrev cX11_struck : ByteArray := prog_1_method_28_code
def yX11_struck : MethodName := ⟨RX11, "struck", "(I)I"⟩
abbrev cX11_hopeless : ByteArray := prog_1_method_29_code
def yX11_hopeless : MethodName := ⟨RX11, "hopeless", "()I"⟩
abbrev cX11_image : ByteArray := prog_1_method_30_code
def yX11_image : MethodName := ⟨RX11, "image", "()I"⟩
abbrev cX11_restore : ByteArray := prog_1_method_31_code
def yX11_restore : MethodName := ⟨RX11, "restore", "()I"⟩
abbrev cX11_count : ByteArray := prog_1_method_32_code
def yX11_count : MethodName := ⟨RX11, "count", "(I)I"⟩
abbrev cX11_checkPerson : ByteArray := prog_1_method_33_code
def yX11_checkPerson : MethodName := ⟨RX11, "checkPerson", "(I)V"⟩
abbrev cX11_checkWhat : ByteArray := prog_1_method_34_code
def yX11_checkWhat : MethodName := ⟨RX11, "checkWhat", "(II)V"⟩
abbrev cX11_checkPair : ByteArray := prog_1_method_35_code
def yX11_checkPair : MethodName := ⟨RX11, "checkPair", "(III)V"⟩
abbrev cX11_checkFewEnough : ByteArray := prog_1_method_36_code
def yX11_checkFewEnough : MethodName := ⟨RX11, "checkFewEnough", "()V"⟩
abbrev cX11_putOnTape : ByteArray := prog_1_method_37_code
def yX11_putOnTape : MethodName := ⟨RX11, "putOnTape", "(I)V"⟩
abbrev cX11_takeText : ByteArray := prog_1_method_38_code
def yX11_takeText : MethodName := ⟨RX11, "takeText", "(I)V"⟩
abbrev cX11_textChanged : ByteArray := prog_1_method_39_code
def yX11_textChanged : MethodName := ⟨RX11, "textChanged", "()V"⟩
abbrev cX11_untilsChanged : ByteArray := prog_1_method_40_code
def yX11_untilsChanged : MethodName := ⟨RX11, "untilsChanged", "()V"⟩
abbrev cX11_waysChanged : ByteArray := prog_1_method_41_code
def yX11_waysChanged : MethodName := ⟨RX11, "waysChanged", "()V"⟩
abbrev cX11_dayAsItIs : ByteArray := prog_1_method_42_code
def yX11_dayAsItIs : MethodName := ⟨RX11, "dayAsItIs", "()LBowingRow$Day;"⟩
abbrev cX11_callOf : ByteArray := prog_1_method_43_code
def yX11_callOf : MethodName := ⟨RX11, "callOf", "(LBowingRow$Day;I)LBowingRow$Call;"⟩
abbrev cX11_endTurning : ByteArray := prog_1_method_44_code
def yX11_endTurning : MethodName := ⟨RX11, "endTurning", "(III)I"⟩
abbrev cX11_endPlanning : ByteArray := prog_1_method_45_code
def yX11_endPlanning : MethodName := ⟨RX11, "endPlanning", "(II)I"⟩
abbrev cX11_late : ByteArray := prog_1_method_46_code
def yX11_late : MethodName := ⟨RX11, "late", "(I)I"⟩
def RX12 : String := "BowingRowModel"
def TX12 : u_T := fun k => match k with
  | 0 => ("BowingRowModel", "thrown", "I", false)
  | 1 => ("BowingRowModel", "tape", "I", false)
  | 2 => ("BowingRowModel", "size", "I", false)
  | 3 => ("BowingRowModel", "place", "I", false)
  | 4 => ("BowingRowModel", "at", "I", false)
  | 5 => ("BowingRowModel", "fault", "I", false)
  | 6 => ("BowingRowModel", "faultAt", "I", false)
  | 7 => ("BowingRowModel", "clauses", "I", false)
  | 8 => ("BowingRowModel", "open", "I", false)
  | 9 => ("BowingRowModel", "fed", "[I", true)
  | 10 => ("BowingRowModel", "readPersons", "I", false)
  | 11 => ("BowingRowModel", "persons", "I", false)
  | 12 => ("BowingRowModel", "readPerson", "[[I", true)
  | 13 => ("BowingRowModel", "person", "[[I", true)
  | 14 => ("BowingRowModel", "readRules", "I", false)
  | 15 => ("BowingRowModel", "rules", "I", false)
  | 16 => ("BowingRowModel", "codes", "I", false)
  | 17 => ("BowingRowModel", "readKind", "[I", true)
  | 18 => ("BowingRowModel", "kind", "[I", true)
  | 19 => ("BowingRowModel", "readNumber", "[I", true)
  | 20 => ("BowingRowModel", "number", "[I", true)
  | 21 => ("BowingRowModel", "readLong", "[I", true)
  | 22 => ("BowingRowModel", "codeLong", "[I", true)
  | 23 => ("BowingRowModel", "readCode", "[[I", true)
  | 24 => ("BowingRowModel", "code", "[[I", true)
  | 25 => ("BowingRowModel", "stack", "[I", true)
  | 26 => ("BowingRowModel", "names", "[I", true)
  | 27 => ("BowingRowModel", "told", "I", false)
  | 28 => ("BowingRowModel", "images", "I", false)
  | 29 => ("BowingRowModel", "row", "[I", true)
  | 30 => ("BowingRowModel", "kept", "[[I", true)
  | 31 => ("BowingRowModel", "ruleOf", "[I", true)
  | 32 => ("BowingRowModel", "ways", "[I", true)
  | 33 => ("BowingRowModel", "struck", "I", false)
  | 34 => ("BowingRowModel", "planOf", "I", false)
  | 35 => ("BowingRowModel", "planBits", "I", false)
  | 36 => ("BowingRowModel", "planUsed", "I", false)
  | 37 => ("BowingRowModel", "laterOf", "I", false)
  | 38 => ("BowingRowModel", "laterFrom", "I", false)
  | 39 => ("BowingRowModel", "laterWay", "I", false)
  | 40 => ("BowingRowModel", "calls", "I", false)
  | 41 => ("BowingRowModel", "passes", "I", false)
  | 42 => ("BowingRowModel", "unasked", "I", false)
  | 43 => ("BowingRowModel", "minuteNow", "I", false)
  | 44 => ("BowingRowModel", "endless", "Z", false)
  | 45 => ("BowingRowModel", "callWho", "[I", true)
  | 46 => ("BowingRowModel", "callMinute", "[I", true)
  | 47 => ("BowingRowModel", "callOffers", "[I", true)
  | 48 => ("BowingRowModel", "callThere", "[I", true)
  | 49 => ("BowingRowModel", "callEnds", "[I", true)
  | 50 => ("BowingRowModel", "holders", "[I", true)
  | 51 => ("BowingRowModel", "ends", "[I", true)
  | 52 => ("BowingRowModel", "holder", "[[I", true)
  | 53 => ("BowingRowModel", "pass", "[[I", true)
  | 54 => ("BowingRowModel", "there", "[I", true)
  | 55 => ("BowingRowModel", "offered", "[I", true)
  | 56 => ("BowingRowModel", "had", "[I", true)
  | 57 => ("BowingRowModel", "many", "I", false)
  | 58 => ("BowingRowModel", "debt", "[[I", true)
  | _ => ("BowingRowModel", "endBy", "[[I", true)
def tyX12 : Nat → FieldType := fun k => match k with
  | 0 => .int
  | 1 => .int
  | 2 => .int
  | 3 => .int
  | 4 => .int
  | 5 => .int
  | 6 => .int
  | 7 => .int
  | 8 => .int
  | 9 => .array .int
  | 10 => .int
  | 11 => .int
  | 12 => .array (.array .int)
  | 13 => .array (.array .int)
  | 14 => .int
  | 15 => .int
  | 16 => .int
  | 17 => .array .int
  | 18 => .array .int
  | 19 => .array .int
  | 20 => .array .int
  | 21 => .array .int
  | 22 => .array .int
  | 23 => .array (.array .int)
  | 24 => .array (.array .int)
  | 25 => .array .int
  | 26 => .array .int
  | 27 => .int
  | 28 => .int
  | 29 => .array .int
  | 30 => .array (.array .int)
  | 31 => .array .int
  | 32 => .array .int
  | 33 => .int
  | 34 => .int
  | 35 => .int
  | 36 => .int
  | 37 => .int
  | 38 => .int
  | 39 => .int
  | 40 => .int
  | 41 => .int
  | 42 => .int
  | 43 => .int
  | 44 => .boolean
  | 45 => .array .int
  | 46 => .array .int
  | 47 => .array .int
  | 48 => .array .int
  | 49 => .array .int
  | 50 => .array .int
  | 51 => .array .int
  | 52 => .array (.array .int)
  | 53 => .array (.array .int)
  | 54 => .array .int
  | 55 => .array .int
  | 56 => .array .int
  | 57 => .int
  | 58 => .array (.array .int)
  | _ => .array (.array .int)
abbrev wsX120 : List Cond := u_ws RX12 TX12 60
theorem nmX12 : ∀ a, a < 60 → ∀ b, b < 60 → a ≠ b → (TX12 a).2.1 ≠ (TX12 b).2.1 := by decide +kernel
theorem tyX12_ok : ∀ k, k < 60 → parseFieldDescriptor (TX12 k).2.2.1 = some (tyX12 k) := by decide +kernel
abbrev cX12_init : ByteArray := prog_14_method_1_code
def yX12_init : MethodName := ⟨RX12, "<init>", "()V"⟩
abbrev cX12_thrown : ByteArray := prog_14_method_2_code
def yX12_thrown : MethodName := ⟨RX12, "thrown", "()I"⟩
abbrev cX12_bad : ByteArray := prog_14_method_3_code
def yX12_bad : MethodName := ⟨RX12, "bad", "(ZI)Z"⟩
abbrev cX12_in : ByteArray := prog_14_method_4_code
def yX12_in : MethodName := ⟨RX12, "in", "(III)Z"⟩
abbrev cX12_feed : ByteArray := prog_14_method_5_code
def yX12_feed : MethodName := ⟨RX12, "feed", "(IIIII)I"⟩
abbrev cX12_byteAt : ByteArray := prog_14_method_6_code
def yX12_byteAt : MethodName := ⟨RX12, "byteAt", "(I)I"⟩
abbrev cX12_blanks : ByteArray := prog_14_method_7_code
def yX12_blanks : MethodName := ⟨RX12, "blanks", "()V"⟩
abbrev cX12_wrong : ByteArray := prog_14_method_8_code
def yX12_wrong : MethodName := ⟨RX12, "wrong", "(II)V"⟩
abbrev cX12_isDigit : ByteArray := prog_14_method_9_code
def yX12_isDigit : MethodName := ⟨RX12, "isDigit", "(I)Z"⟩
abbrev cX12_numberHere : ByteArray := prog_14_method_10_code
def yX12_numberHere : MethodName := ⟨RX12, "numberHere", "(III)I"⟩
abbrev cX12_wordHere : ByteArray := prog_14_method_11_code
def yX12_wordHere : MethodName := ⟨RX12, "wordHere", "()J"⟩
abbrev cX12_five : ByteArray := prog_14_method_12_code
def yX12_five : MethodName := ⟨RX12, "five", "(IIIII)J"⟩
abbrev cX12_isWord : ByteArray := prog_14_method_13_code
def yX12_isWord : MethodName := ⟨RX12, "isWord", "(J)Z"⟩
abbrev cX12_skipWord : ByteArray := prog_14_method_14_code
def yX12_skipWord : MethodName := ⟨RX12, "skipWord", "()V"⟩
abbrev cX12_eats : ByteArray := prog_14_method_15_code
def yX12_eats : MethodName := ⟨RX12, "eats", "(J)Z"⟩
abbrev cX12_signHere : ByteArray := prog_14_method_16_code
def yX12_signHere : MethodName := ⟨RX12, "signHere", "()I"⟩
abbrev cX12_sign : ByteArray := prog_14_method_17_code
def yX12_sign : MethodName := ⟨RX12, "sign", "(I)V"⟩
abbrev cX12_opens : ByteArray := prog_14_method_18_code
def yX12_opens : MethodName := ⟨RX12, "opens", "(I)V"⟩
abbrev cX12_starts : ByteArray := prog_14_method_19_code
def yX12_starts : MethodName := ⟨RX12, "starts", "(I)V"⟩
abbrev cX12_clause : ByteArray := prog_14_method_20_code
def yX12_clause : MethodName := ⟨RX12, "clause", "()V"⟩
abbrev cX12_readsPerson : ByteArray := prog_14_method_21_code
def yX12_readsPerson : MethodName := ⟨RX12, "readsPerson", "()V"⟩
abbrev cX12_row : ByteArray := prog_14_method_22_code
def yX12_row : MethodName := ⟨RX12, "row", "(I)I"⟩
abbrev cX12_ruleHere : ByteArray := prog_14_method_23_code
def yX12_ruleHere : MethodName := ⟨RX12, "ruleHere", "()I"⟩
abbrev cX12_rule : ByteArray := prog_14_method_24_code
def yX12_rule : MethodName := ⟨RX12, "rule", "()V"⟩
abbrev cX12_law : ByteArray := prog_14_method_25_code
def yX12_law : MethodName := ⟨RX12, "law", "(I)I"⟩
abbrev cX12_fault : ByteArray := prog_14_method_26_code
def yX12_fault : MethodName := ⟨RX12, "fault", "()I"⟩
abbrev cX12_tells : ByteArray := prog_14_method_27_code
def yX12_tells : MethodName := ⟨RX12, "tells", "(I)V"⟩
abbrev cX12_sum : ByteArray := prog_14_method_28_code
def yX12_sum : MethodName := ⟨RX12, "sum", "()V"⟩
abbrev cX12_product : ByteArray := prog_14_method_29_code
def yX12_product : MethodName := ⟨RX12, "product", "()V"⟩
abbrev cX12_nameHere : ByteArray := prog_14_method_30_code
def yX12_nameHere : MethodName := ⟨RX12, "nameHere", "()I"⟩
abbrev cX12_unit : ByteArray := prog_14_method_31_code
def yX12_unit : MethodName := ⟨RX12, "unit", "()V"⟩
abbrev cX12_ors : ByteArray := prog_14_method_32_code
def yX12_ors : MethodName := ⟨RX12, "ors", "()V"⟩
abbrev cX12_ands : ByteArray := prog_14_method_33_code
def yX12_ands : MethodName := ⟨RX12, "ands", "()V"⟩
abbrev cX12_asked : ByteArray := prog_14_method_34_code
def yX12_asked : MethodName := ⟨RX12, "asked", "()V"⟩
abbrev cX12_comes : ByteArray := prog_14_method_35_code
def yX12_comes : MethodName := ⟨RX12, "comes", "(I)I"⟩
abbrev cX12_both : ByteArray := prog_14_method_36_code
def yX12_both : MethodName := ⟨RX12, "both", "(III)I"⟩
abbrev cX12_layRules : ByteArray := prog_14_method_37_code
def yX12_layRules : MethodName := ⟨RX12, "layRules", "()V"⟩
abbrev cX12_numberOf : ByteArray := prog_14_method_38_code
def yX12_numberOf : MethodName := ⟨RX12, "numberOf", "(II)I"⟩
abbrev cX12_told : ByteArray := prog_14_method_39_code
def yX12_told : MethodName := ⟨RX12, "told", "(I)I"⟩
abbrev cX12_isPerson : ByteArray := prog_14_method_40_code
def yX12_isPerson : MethodName := ⟨RX12, "isPerson", "(I)Z"⟩
abbrev cX12_person : ByteArray := prog_14_method_41_code
def yX12_person : MethodName := ⟨RX12, "person", "(II)I"⟩
abbrev cX12_way : ByteArray := prog_14_method_42_code
def yX12_way : MethodName := ⟨RX12, "way", "(II)I"⟩
abbrev cX12_until : ByteArray := prog_14_method_43_code
def yX12_until : MethodName := ⟨RX12, "until", "(II)I"⟩
abbrev cX12_layNames : ByteArray := prog_14_method_44_code
def yX12_layNames : MethodName := ⟨RX12, "layNames", "(III)V"⟩
abbrev cX12_mustBe : ByteArray := prog_14_method_45_code
def yX12_mustBe : MethodName := ⟨RX12, "mustBe", "(III)Z"⟩
abbrev cX12_worthOf : ByteArray := prog_14_method_46_code
def yX12_worthOf : MethodName := ⟨RX12, "worthOf", "(III)I"⟩
abbrev cX12_must : ByteArray := prog_14_method_47_code
def yX12_must : MethodName := ⟨RX12, "must", "(III)Z"⟩
abbrev cX12_worth : ByteArray := prog_14_method_48_code
def yX12_worth : MethodName := ⟨RX12, "worth", "(III)I"⟩
abbrev cX12_balanceOf : ByteArray := prog_14_method_49_code
def yX12_balanceOf : MethodName := ⟨RX12, "balanceOf", "(II)I"⟩
abbrev cX12_layThere : ByteArray := prog_14_method_50_code
def yX12_layThere : MethodName := ⟨RX12, "layThere", "(I)V"⟩
abbrev cX12_nextComes : ByteArray := prog_14_method_51_code
def yX12_nextComes : MethodName := ⟨RX12, "nextComes", "(I)I"⟩
abbrev cX12_day0 : ByteArray := prog_14_method_52_code
def yX12_day0 : MethodName := ⟨RX12, "day0", "()V"⟩
abbrev cX12_layWays : ByteArray := prog_14_method_53_code
def yX12_layWays : MethodName := ⟨RX12, "layWays", "()V"⟩
abbrev cX12_asItIs : ByteArray := prog_14_method_54_code
def yX12_asItIs : MethodName := ⟨RX12, "asItIs", "()V"⟩
abbrev cX12_callAt : ByteArray := prog_14_method_55_code
def yX12_callAt : MethodName := ⟨RX12, "callAt", "(I)V"⟩
abbrev cX12_passes : ByteArray := prog_14_method_56_code
def yX12_passes : MethodName := ⟨RX12, "passes", "(III)V"⟩
abbrev cX12_dueAt : ByteArray := prog_14_method_57_code
def yX12_dueAt : MethodName := ⟨RX12, "dueAt", "(I)I"⟩
abbrev cX12_askedAt : ByteArray := prog_14_method_58_code
def yX12_askedAt : MethodName := ⟨RX12, "askedAt", "(II)I"⟩
abbrev cX12_offers : ByteArray := prog_14_method_59_code
def yX12_offers : MethodName := ⟨RX12, "offers", "(IIII)Z"⟩
abbrev cX12_day : ByteArray := prog_14_method_60_code
def yX12_day : MethodName := ⟨RX12, "day", "(I)I"⟩
abbrev cX12_call : ByteArray := prog_14_method_61_code
def yX12_call : MethodName := ⟨RX12, "call", "(II)I"⟩
abbrev cX12_holder : ByteArray := prog_14_method_62_code
def yX12_holder : MethodName := ⟨RX12, "holder", "(II)I"⟩
abbrev cX12_ends : ByteArray := prog_14_method_63_code
def yX12_ends : MethodName := ⟨RX12, "ends", "(I)I"⟩
abbrev cX12_balance : ByteArray := prog_14_method_64_code
def yX12_balance : MethodName := ⟨RX12, "balance", "(I)I"⟩
abbrev cX12_bookOf : ByteArray := prog_14_method_65_code
def yX12_bookOf : MethodName := ⟨RX12, "bookOf", "(II)I"⟩
abbrev cX12_book : ByteArray := prog_14_method_66_code
def yX12_book : MethodName := ⟨RX12, "book", "(II)I"⟩
abbrev cX12_setsOff : ByteArray := prog_14_method_67_code
def yX12_setsOff : MethodName := ⟨RX12, "setsOff", "()Z"⟩
abbrev cX12_owed : ByteArray := prog_14_method_68_code
def yX12_owed : MethodName := ⟨RX12, "owed", "(II)I"⟩
abbrev cX12_tell : ByteArray := prog_14_method_69_code
def yX12_tell : MethodName := ⟨RX12, "tell", "(I)I"⟩
abbrev cX12_forget : ByteArray := prog_14_method_70_code
def yX12_forget : MethodName := ⟨RX12, "forget", "()I"⟩
abbrev cX12_judge : ByteArray := prog_14_method_71_code
def yX12_judge : MethodName := ⟨RX12, "judge", "()I"⟩
abbrev cX12_again : ByteArray := prog_14_method_72_code
def yX12_again : MethodName := ⟨RX12, "again", "(III)I"⟩
abbrev cX12_planEnds : ByteArray := prog_14_method_73_code
def yX12_planEnds : MethodName := ⟨RX12, "planEnds", "(II)I"⟩
abbrev cX12_plan : ByteArray := prog_14_method_74_code
def yX12_plan : MethodName := ⟨RX12, "plan", "(II)I"⟩
abbrev cX12_best : ByteArray := prog_14_method_75_code
def yX12_best : MethodName := ⟨RX12, "best", "(II)I"⟩
abbrev cX12_endOf : ByteArray := prog_14_method_76_code
def yX12_endOf : MethodName := ⟨RX12, "endOf", "(I)I"⟩
abbrev cX12_gain : ByteArray := prog_14_method_77_code
def yX12_gain : MethodName := ⟨RX12, "gain", "(II)I"⟩
abbrev cX12_allRows : ByteArray := prog_14_method_78_code
def yX12_allRows : MethodName := ⟨RX12, "allRows", "()I"⟩
abbrev cX12_power : ByteArray := prog_14_method_79_code
def yX12_power : MethodName := ⟨RX12, "power", "(I)I"⟩
abbrev cX12_layAll : ByteArray := prog_14_method_80_code
def yX12_layAll : MethodName := ⟨RX12, "layAll", "()V"⟩
abbrev cX12_isRest : ByteArray := prog_14_method_81_code
def yX12_isRest : MethodName := ⟨RX12, "isRest", "(I)Z"⟩
abbrev cX12_rest : ByteArray := prog_14_method_82_code
def yX12_rest : MethodName := ⟨RX12, "rest", "(I)I"⟩
abbrev cX12_polite : ByteArray := prog_14_method_83_code
def yX12_polite : MethodName := ⟨RX12, "polite", "(I)I"⟩
abbrev cX12_ones : ByteArray := prog_14_method_84_code
def yX12_ones : MethodName := ⟨RX12, "ones", "(I)I"⟩
abbrev cX12_servedWithout : ByteArray := prog_14_method_85_code
def yX12_servedWithout : MethodName := ⟨RX12, "servedWithout", "(I)I"⟩
abbrev cX12_struck : ByteArray := prog_14_method_86_code
def yX12_struck : MethodName := ⟨RX12, "struck", "(I)I"⟩
abbrev cX12_hopeless : ByteArray := prog_14_method_87_code
def yX12_hopeless : MethodName := ⟨RX12, "hopeless", "()I"⟩
abbrev cX12_moves : ByteArray := prog_14_method_88_code
def yX12_moves : MethodName := ⟨RX12, "moves", "([IZ)V"⟩
abbrev cX12_image : ByteArray := prog_14_method_89_code
def yX12_image : MethodName := ⟨RX12, "image", "()I"⟩
abbrev cX12_restore : ByteArray := prog_14_method_90_code
def yX12_restore : MethodName := ⟨RX12, "restore", "()I"⟩
abbrev cX12_count : ByteArray := prog_14_method_91_code
def yX12_count : MethodName := ⟨RX12, "count", "(I)I"⟩
def RJx145de : String := "java/io/Serializable"
def TJx145de : u_T := fun k => match k with
  | _ => ("", "", "", false)
def tyJx145de : Nat → FieldType := fun k => match k with
  | _ => .int
abbrev wsJx145de0 : List Cond := u_ws RJx145de TJx145de 0
theorem nmJx145de : ∀ a, a < 0 → ∀ b, b < 0 → a ≠ b → (TJx145de a).2.1 ≠ (TJx145de b).2.1 := by decide +kernel
theorem tyJx145de_ok : ∀ k, k < 0 → parseFieldDescriptor (TJx145de k).2.2.1 = some (tyJx145de k) := by decide +kernel
def RJx9f9b0 : String := "java/lang/CharSequence"
def TJx9f9b0 : u_T := fun k => match k with
  | _ => ("", "", "", false)
def tyJx9f9b0 : Nat → FieldType := fun k => match k with
  | _ => .int
abbrev wsJx9f9b00 : List Cond := u_ws RJx9f9b0 TJx9f9b0 0
theorem nmJx9f9b0 : ∀ a, a < 0 → ∀ b, b < 0 → a ≠ b → (TJx9f9b0 a).2.1 ≠ (TJx9f9b0 b).2.1 := by decide +kernel
theorem tyJx9f9b0_ok : ∀ k, k < 0 → parseFieldDescriptor (TJx9f9b0 k).2.2.1 = some (tyJx9f9b0 k) := by decide +kernel
def RJxb160c : String := "java/lang/Comparable"
def TJxb160c : u_T := fun k => match k with
  | _ => ("", "", "", false)
def tyJxb160c : Nat → FieldType := fun k => match k with
  | _ => .int
abbrev wsJxb160c0 : List Cond := u_ws RJxb160c TJxb160c 0
theorem nmJxb160c : ∀ a, a < 0 → ∀ b, b < 0 → a ≠ b → (TJxb160c a).2.1 ≠ (TJxb160c b).2.1 := by decide +kernel
theorem tyJxb160c_ok : ∀ k, k < 0 → parseFieldDescriptor (TJxb160c k).2.2.1 = some (tyJxb160c k) := by decide +kernel
def RJx29ce0 : String := "java/lang/Enum"
def TJx29ce0 : u_T := fun k => match k with
  | _ => ("", "", "", false)
def tyJx29ce0 : Nat → FieldType := fun k => match k with
  | _ => .int
abbrev wsJx29ce00 : List Cond := u_ws RJx29ce0 TJx29ce0 0
theorem nmJx29ce0 : ∀ a, a < 0 → ∀ b, b < 0 → a ≠ b → (TJx29ce0 a).2.1 ≠ (TJx29ce0 b).2.1 := by decide +kernel
theorem tyJx29ce0_ok : ∀ k, k < 0 → parseFieldDescriptor (TJx29ce0 k).2.2.1 = some (tyJx29ce0 k) := by decide +kernel
def RJ6 : String := "java/lang/Integer"
def TJ6 : u_T := fun k => match k with
  | _ => ("", "", "", false)
def tyJ6 : Nat → FieldType := fun k => match k with
  | _ => .int
abbrev wsJ60 : List Cond := u_ws RJ6 TJ6 0
theorem nmJ6 : ∀ a, a < 0 → ∀ b, b < 0 → a ≠ b → (TJ6 a).2.1 ≠ (TJ6 b).2.1 := by decide +kernel
theorem tyJ6_ok : ∀ k, k < 0 → parseFieldDescriptor (TJ6 k).2.2.1 = some (tyJ6 k) := by decide +kernel
abbrev cJ6_bitCount_0f7a4 : ByteArray := prog_23_method_49_code
def yJ6_bitCount_0f7a4 : MethodName := ⟨RJ6, "bitCount", "(I)I"⟩
def RJ9 : String := "java/lang/Math"
def TJ9 : u_T := fun k => match k with
  | _ => ("", "", "", false)
def tyJ9 : Nat → FieldType := fun k => match k with
  | _ => .int
abbrev wsJ90 : List Cond := u_ws RJ9 TJ9 0
theorem nmJ9 : ∀ a, a < 0 → ∀ b, b < 0 → a ≠ b → (TJ9 a).2.1 ≠ (TJ9 b).2.1 := by decide +kernel
theorem tyJ9_ok : ∀ k, k < 0 → parseFieldDescriptor (TJ9 k).2.2.1 = some (tyJ9 k) := by decide +kernel
abbrev cJ9_max_7cf53 : ByteArray := prog_24_method_65_code
def yJ9_max_7cf53 : MethodName := ⟨RJ9, "max", "(II)I"⟩
abbrev cJ9_min_7cf53 : ByteArray := prog_24_method_69_code
def yJ9_min_7cf53 : MethodName := ⟨RJ9, "min", "(II)I"⟩
def RJ0 : String := "java/lang/String"
def TJ0 : u_T := fun k => match k with
  | _ => ("", "", "", false)
def tyJ0 : Nat → FieldType := fun k => match k with
  | _ => .int
abbrev wsJ00 : List Cond := u_ws RJ0 TJ0 0
theorem nmJ0 : ∀ a, a < 0 → ∀ b, b < 0 → a ≠ b → (TJ0 a).2.1 ≠ (TJ0 b).2.1 := by decide +kernel
theorem tyJ0_ok : ∀ k, k < 0 → parseFieldDescriptor (TJ0 k).2.2.1 = some (tyJ0 k) := by decide +kernel
abbrev cJ0_length_8abf5 : ByteArray := prog_26_method_54_code
def yJ0_length_8abf5 : MethodName := ⟨RJ0, "length", "()I"⟩
abbrev cJ0_charAt_5068e : ByteArray := prog_26_method_56_code
def yJ0_charAt_5068e : MethodName := ⟨RJ0, "charAt", "(I)C"⟩
abbrev cJ0_coder_7d493 : ByteArray := prog_26_method_152_code
def yJ0_coder_7d493 : MethodName := ⟨RJ0, "coder", "()B"⟩
abbrev cJ0_isLatin1_aae02 : ByteArray := prog_26_method_154_code
def yJ0_isLatin1_aae02 : MethodName := ⟨RJ0, "isLatin1", "()Z"⟩
abbrev cJ0_checkIndex_df160 : ByteArray := prog_26_method_155_code
def yJ0_checkIndex_df160 : MethodName := ⟨RJ0, "checkIndex", "(II)V"⟩
def RJ1 : String := "java/lang/StringLatin1"
def TJ1 : u_T := fun k => match k with
  | _ => ("", "", "", false)
def tyJ1 : Nat → FieldType := fun k => match k with
  | _ => .int
abbrev wsJ10 : List Cond := u_ws RJ1 TJ1 0
theorem nmJ1 : ∀ a, a < 0 → ∀ b, b < 0 → a ≠ b → (TJ1 a).2.1 ≠ (TJ1 b).2.1 := by decide +kernel
theorem tyJ1_ok : ∀ k, k < 0 → parseFieldDescriptor (TJ1 k).2.2.1 = some (tyJ1 k) := by decide +kernel
abbrev cJ1_charAt_3b067 : ByteArray := prog_27_method_2_code
def yJ1_charAt_3b067 : MethodName := ⟨RJ1, "charAt", "([BI)C"⟩
def RJ2 : String := "java/lang/StringUTF16"
def TJ2 : u_T := fun k => match k with
  | _ => ("", "", "", false)
def tyJ2 : Nat → FieldType := fun k => match k with
  | _ => .int
abbrev wsJ20 : List Cond := u_ws RJ2 TJ2 0
theorem nmJ2 : ∀ a, a < 0 → ∀ b, b < 0 → a ≠ b → (TJ2 a).2.1 ≠ (TJ2 b).2.1 := by decide +kernel
theorem tyJ2_ok : ∀ k, k < 0 → parseFieldDescriptor (TJ2 k).2.2.1 = some (tyJ2 k) := by decide +kernel
abbrev cJ2_getChar_3b067 : ByteArray := prog_28_method_5_code
def yJ2_getChar_3b067 : MethodName := ⟨RJ2, "getChar", "([BI)C"⟩
abbrev cJ2_length_9d52b : ByteArray := prog_28_method_6_code
def yJ2_length_9d52b : MethodName := ⟨RJ2, "length", "([B)I"⟩
abbrev cJ2_charAt_3b067 : ByteArray := prog_28_method_83_code
def yJ2_charAt_3b067 : MethodName := ⟨RJ2, "charAt", "([BI)C"⟩
abbrev cJ2_checkIndex_2214a : ByteArray := prog_28_method_91_code
def yJ2_checkIndex_2214a : MethodName := ⟨RJ2, "checkIndex", "(I[B)V"⟩
def RJ10 : String := "java/lang/System"
def TJ10 : u_T := fun k => match k with
  | _ => ("", "", "", false)
def tyJ10 : Nat → FieldType := fun k => match k with
  | _ => .int
abbrev wsJ100 : List Cond := u_ws RJ10 TJ10 0
theorem nmJ10 : ∀ a, a < 0 → ∀ b, b < 0 → a ≠ b → (TJ10 a).2.1 ≠ (TJ10 b).2.1 := by decide +kernel
theorem tyJ10_ok : ∀ k, k < 0 → parseFieldDescriptor (TJ10 k).2.2.1 = some (tyJ10 k) := by decide +kernel
def RJxfd54e : String := "java/lang/constant/Constable"
def TJxfd54e : u_T := fun k => match k with
  | _ => ("", "", "", false)
def tyJxfd54e : Nat → FieldType := fun k => match k with
  | _ => .int
abbrev wsJxfd54e0 : List Cond := u_ws RJxfd54e TJxfd54e 0
theorem nmJxfd54e : ∀ a, a < 0 → ∀ b, b < 0 → a ≠ b → (TJxfd54e a).2.1 ≠ (TJxfd54e b).2.1 := by decide +kernel
theorem tyJxfd54e_ok : ∀ k, k < 0 → parseFieldDescriptor (TJxfd54e k).2.2.1 = some (tyJxfd54e k) := by decide +kernel
def RJx3cf43 : String := "java/lang/constant/ConstantDesc"
def TJx3cf43 : u_T := fun k => match k with
  | _ => ("", "", "", false)
def tyJx3cf43 : Nat → FieldType := fun k => match k with
  | _ => .int
abbrev wsJx3cf430 : List Cond := u_ws RJx3cf43 TJx3cf43 0
theorem nmJx3cf43 : ∀ a, a < 0 → ∀ b, b < 0 → a ≠ b → (TJx3cf43 a).2.1 ≠ (TJx3cf43 b).2.1 := by decide +kernel
theorem tyJx3cf43_ok : ∀ k, k < 0 → parseFieldDescriptor (TJx3cf43 k).2.2.1 = some (tyJx3cf43 k) := by decide +kernel
def RJ7 : String := "java/util/Arrays"
def TJ7 : u_T := fun k => match k with
  | _ => ("", "", "", false)
def tyJ7 : Nat → FieldType := fun k => match k with
  | _ => .int
abbrev wsJ70 : List Cond := u_ws RJ7 TJ7 0
theorem nmJ7 : ∀ a, a < 0 → ∀ b, b < 0 → a ≠ b → (TJ7 a).2.1 ≠ (TJ7 b).2.1 := by decide +kernel
theorem tyJ7_ok : ∀ k, k < 0 → parseFieldDescriptor (TJ7 k).2.2.1 = some (tyJ7 k) := by decide +kernel
abbrev cJ7_fill_53178 : ByteArray := prog_33_method_103_code
def yJ7_fill_53178 : MethodName := ⟨RJ7, "fill", "([II)V"⟩
abbrev cJ7_fill_031fb : ByteArray := prog_33_method_109_code
def yJ7_fill_031fb : MethodName := ⟨RJ7, "fill", "([BB)V"⟩
def RJ3 : String := "jdk/internal/util/Preconditions"
def TJ3 : u_T := fun k => match k with
  | _ => ("", "", "", false)
def tyJ3 : Nat → FieldType := fun k => match k with
  | _ => .int
abbrev wsJ30 : List Cond := u_ws RJ3 TJ3 0
theorem nmJ3 : ∀ a, a < 0 → ∀ b, b < 0 → a ≠ b → (TJ3 a).2.1 ≠ (TJ3 b).2.1 := by decide +kernel
theorem tyJ3_ok : ∀ k, k < 0 → parseFieldDescriptor (TJ3 k).2.2.1 = some (tyJ3 k) := by decide +kernel
abbrev cJ3_checkIndex_8e157 : ByteArray := prog_35_method_11_code
def yJ3_checkIndex_8e157 : MethodName := ⟨RJ3, "checkIndex", "(IILjava/util/function/BiFunction;)I"⟩
def RL : String := "BowingRowLaw"
abbrev cL_row : ByteArray := method_3_code
def yL_row : MethodName := ⟨RL, "row", "(LBowingRow;I[J)I"⟩
abbrev cL_law : ByteArray := method_4_code
def yL_law : MethodName := ⟨RL, "law", "(LBowingRow;I[J)I"⟩
abbrev cL_told : ByteArray := method_5_code
def yL_told : MethodName := ⟨RL, "told", "(LBowingRow;I[J)I"⟩
abbrev cL_person : ByteArray := method_6_code
def yL_person : MethodName := ⟨RL, "person", "(LBowingRow;II[J)I"⟩
abbrev cL_way : ByteArray := method_7_code
def yL_way : MethodName := ⟨RL, "way", "(LBowingRow;II[J)I"⟩
abbrev cL_until : ByteArray := method_8_code
def yL_until : MethodName := ⟨RL, "until", "(LBowingRow;II[J)I"⟩
abbrev cL_must : ByteArray := method_9_code
def yL_must : MethodName := ⟨RL, "must", "(LBowingRow;III[J)I"⟩
abbrev cL_worth : ByteArray := method_10_code
def yL_worth : MethodName := ⟨RL, "worth", "(LBowingRow;III[J)I"⟩
abbrev cL_day : ByteArray := method_11_code
def yL_day : MethodName := ⟨RL, "day", "(LBowingRow;I[J)I"⟩
abbrev cL_call : ByteArray := method_12_code
def yL_call : MethodName := ⟨RL, "call", "(LBowingRow;II[J)I"⟩
abbrev cL_holder : ByteArray := method_13_code
def yL_holder : MethodName := ⟨RL, "holder", "(LBowingRow;II[J)I"⟩
abbrev cL_ends : ByteArray := method_14_code
def yL_ends : MethodName := ⟨RL, "ends", "(LBowingRow;I[J)I"⟩
abbrev cL_balance : ByteArray := method_15_code
def yL_balance : MethodName := ⟨RL, "balance", "(LBowingRow;I[J)I"⟩
abbrev cL_book : ByteArray := method_16_code
def yL_book : MethodName := ⟨RL, "book", "(LBowingRow;II[J)I"⟩
abbrev cL_owed : ByteArray := method_17_code
def yL_owed : MethodName := ⟨RL, "owed", "(LBowingRow;II[J)I"⟩
abbrev cL_tell : ByteArray := method_18_code
def yL_tell : MethodName := ⟨RL, "tell", "(LBowingRow;I[J)I"⟩
abbrev cL_again : ByteArray := method_19_code
def yL_again : MethodName := ⟨RL, "again", "(LBowingRow;III[J)I"⟩
abbrev cL_plan : ByteArray := method_20_code
def yL_plan : MethodName := ⟨RL, "plan", "(LBowingRow;II[J)I"⟩
abbrev cL_best : ByteArray := method_21_code
def yL_best : MethodName := ⟨RL, "best", "(LBowingRow;II[J)I"⟩
abbrev cL_gain : ByteArray := method_22_code
def yL_gain : MethodName := ⟨RL, "gain", "(LBowingRow;II[J)I"⟩
abbrev cL_rest : ByteArray := method_23_code
def yL_rest : MethodName := ⟨RL, "rest", "(LBowingRow;I[J)I"⟩
abbrev cL_polite : ByteArray := method_24_code
def yL_polite : MethodName := ⟨RL, "polite", "(LBowingRow;I[J)I"⟩
abbrev cL_struck : ByteArray := method_25_code
def yL_struck : MethodName := ⟨RL, "struck", "(LBowingRow;I[J)I"⟩
abbrev cL_law_ : ByteArray := code
def yL_law_ : MethodName := ⟨RL, "law", "([I)Z"⟩
end
section
/-! ===== THE CORE: a method's steps over a picture of all cells made since the law's entry =====
A cell has a NAME (a number): 0 null; 1 to 99 what was there before (constants); 100 and on the cells that were made, in their order.
M : Mm holds ints, references (names), longs by name and slot, a cell's shape (kind, length), the next name. -/
abbrev vwCl : List vw_C := [(RX0, TX0, 8), (RX1, TX1, 17), (RX2, TX2, 4), (RX3, TX3, 7), (RX4, TX4, 8), (RX5, TX5, 7), (RX6, TX6, 3), (RX7, TX7, 3), (RX8, TX8, 8), (RX9, TX9, 6), (RX11, TX11, 18), (RX12, TX12, 60)]
abbrev Mm : Type := (Nat → Nat → Int32) × (Nat → Nat → Nat) × (Nat → Nat → Int64) × (Nat → Nat × Nat) × Nat
def m_i (M : Mm) (a k : Nat) : Int32 := M.1 a k
def m_r (M : Mm) (a k : Nat) : Nat := M.2.1 a k
def m_l (M : Mm) (a k : Nat) : Int64 := M.2.2.1 a k
def m_sh (M : Mm) (a : Nat) : Nat × Nat := M.2.2.2.1 a
def m_nx (M : Mm) : Nat := M.2.2.2.2
def m_si (M : Mm) (a k : Nat) (v : Int32) : Mm := (fun b j => if b = a ∧ j = k then v else M.1 b j, M.2)
def m_sr (M : Mm) (a k : Nat) (v : Nat) : Mm := (M.1, fun b j => if b = a ∧ j = k then v else M.2.1 b j, M.2.2)
def m_sl (M : Mm) (a k : Nat) (v : Int64) : Mm := (M.1, M.2.1, fun b j => if b = a ∧ j = k then v else M.2.2.1 b j, M.2.2.2)
def m_al (M : Mm) (t : Nat × Nat) : Mm := (fun b j => if b = M.2.2.2.2 then 0 else M.1 b j, fun b j => if b = M.2.2.2.2 then 0 else M.2.1 b j, fun b j => if b = M.2.2.2.2 then 0 else M.2.2.1 b j, fun b => if b = M.2.2.2.2 then t else M.2.2.2.1 b, M.2.2.2.2 + 1)
theorem m_i_si (M : Mm) (a k : Nat) (v : Int32) (b j : Nat) : m_i (m_si M a k v) b j = if b = a ∧ j = k then v else m_i M b j := rfl
theorem m_r_si (M : Mm) (a k : Nat) (v : Int32) (b j : Nat) : m_r (m_si M a k v) b j = m_r M b j := rfl
theorem m_l_si (M : Mm) (a k : Nat) (v : Int32) (b j : Nat) : m_l (m_si M a k v) b j = m_l M b j := rfl
theorem m_sh_si (M : Mm) (a k : Nat) (v : Int32) (b : Nat) : m_sh (m_si M a k v) b = m_sh M b := rfl
theorem m_nx_si (M : Mm) (a k : Nat) (v : Int32) : m_nx (m_si M a k v) = m_nx M := rfl
theorem m_i_sr (M : Mm) (a k v : Nat) (b j : Nat) : m_i (m_sr M a k v) b j = m_i M b j := rfl
theorem m_r_sr (M : Mm) (a k v : Nat) (b j : Nat) : m_r (m_sr M a k v) b j = if b = a ∧ j = k then v else m_r M b j := rfl
theorem m_l_sr (M : Mm) (a k v : Nat) (b j : Nat) : m_l (m_sr M a k v) b j = m_l M b j := rfl
theorem m_sh_sr (M : Mm) (a k v : Nat) (b : Nat) : m_sh (m_sr M a k v) b = m_sh M b := rfl
theorem m_nx_sr (M : Mm) (a k v : Nat) : m_nx (m_sr M a k v) = m_nx M := rfl
theorem m_i_sl (M : Mm) (a k : Nat) (v : Int64) (b j : Nat) : m_i (m_sl M a k v) b j = m_i M b j := rfl
theorem m_r_sl (M : Mm) (a k : Nat) (v : Int64) (b j : Nat) : m_r (m_sl M a k v) b j = m_r M b j := rfl
theorem m_l_sl (M : Mm) (a k : Nat) (v : Int64) (b j : Nat) : m_l (m_sl M a k v) b j = if b = a ∧ j = k then v else m_l M b j := rfl
theorem m_sh_sl (M : Mm) (a k : Nat) (v : Int64) (b : Nat) : m_sh (m_sl M a k v) b = m_sh M b := rfl
theorem m_nx_sl (M : Mm) (a k : Nat) (v : Int64) : m_nx (m_sl M a k v) = m_nx M := rfl
theorem m_i_al (M : Mm) (t : Nat × Nat) (b j : Nat) : m_i (m_al M t) b j = if b = m_nx M then 0 else m_i M b j := rfl
theorem m_r_al (M : Mm) (t : Nat × Nat) (b j : Nat) : m_r (m_al M t) b j = if b = m_nx M then 0 else m_r M b j := rfl
theorem m_l_al (M : Mm) (t : Nat × Nat) (b j : Nat) : m_l (m_al M t) b j = if b = m_nx M then 0 else m_l M b j := rfl
theorem m_sh_al (M : Mm) (t : Nat × Nat) (b : Nat) : m_sh (m_al M t) b = if b = m_nx M then t else m_sh M b := rfl
theorem m_nx_al (M : Mm) (t : Nat × Nat) : m_nx (m_al M t) = m_nx M + 1 := rfl
/-- types of fields, by the class's place in vwCl -/
def tyC (ci : Nat) : Nat → FieldType := match ci with
  | 0 => tyX0 | 1 => tyX1 | 2 => tyX2 | 3 => tyX3 | 4 => tyX4 | 5 => tyX5 | 6 => tyX6 | 7 => tyX7 | 8 => tyX8 | 9 => tyX9 | 10 => tyX11 | _ => tyX12
def nFd (ci : Nat) : Nat := match ci with
  | 0 => 8 | 1 => 17 | 2 => 4 | 3 => 7 | 4 => 8 | 5 => 7 | 6 => 3 | 7 => 3 | 8 => 8 | 9 => 6 | 10 => 18 | 11 => 60 | _ => 0
def isI (t : FieldType) : Bool := match t with
  | .int => true
  | .boolean => true
  | _ => false
def tr (ad : Nat → Nat) : Value → Value
  | .ref 0 => .null
  | .ref (k + 1) => .ref (ad (k + 1))
  | v => v
def rf_ (ad : Nat → Nat) (k : Nat) : Option Nat := if k = 0 then none else some (ad k)
theorem tr_rf (ad : Nat → Nat) (k : Nat) : tr ad (.ref k) = va_rf (rf_ ad k) := by
  cases k with
  | zero => rfl
  | succ k => rfl
theorem tr_cat (ad : Nat → Nat) (v : Value) : (tr ad v).category = v.category := by
  cases v with
  | ref k => cases k <;> rfl
  | _ => rfl
def m_fv (ad : Nat → Nat) (M : Mm) (a ci k : Nat) : Value := if isI (tyC ci k) = true then .int (m_i M a k) else tr ad (.ref (m_r M a k))
def m_cell (cA : Nat → ClassId) (ad : Nat → Nat) (M : Mm) (a : Nat) : va_E :=
  if (m_sh M a).1 < 12 then .inr ((m_sh M a).1, (List.range (nFd (m_sh M a).1)).map (m_fv ad M a (m_sh M a).1))
  else if (m_sh M a).1 < 22 then .inl (cA (m_sh M a).1, (m_sh M a).2, .inl (m_i M a))
  else if (m_sh M a).1 = 22 then .inl (cA 22, (m_sh M a).2, .inr (.inl (m_l M a)))
  else .inl (cA (m_sh M a).1, (m_sh M a).2, .inr (.inr (.inr (.inr (fun j => rf_ ad (m_r M a j))))))
def m_ws (cA : Nat → ClassId) (ad : Nat → Nat) (M : Mm) : va_W := (List.range (m_nx M - 100)).map (fun i => (ad (100 + i), m_cell cA ad M (100 + i)))
def kTys (cA : Nat → ClassId) : List (ClassId × FieldType) := [(cA 20, .int), (cA 21, .byte), (cA 22, .long), (cA 30, .object "BowingRow$Call"), (cA 31, .object "BowingRow$Image"), (cA 32, .object "BowingRow$Word"), (cA 33, .array .int)]
abbrev Gx : Type := va_G × (Nat → ClassId) × Heap × (Nat → Nat)
def bdL (n : Nat) (l : List Value) : Prop := ∀ a, Value.ref a ∈ l → a < n
def RelE (G : Gx) (M : Mm) (ad : Nat → Nat) (H : Heap) : Prop :=
  va_P G.1 vwCl (m_ws G.2.1 ad M) H ∧ va_D (fun q => G.2.2.1.size ≤ q) (m_ws G.2.1 ad M) ∧ 100 ≤ m_nx M ∧ (∀ a k, m_r M a k < m_nx M) ∧ G.2.2.1.size ≤ H.size ∧ (∀ q : Nat, q < G.2.2.1.size → H[q]? = G.2.2.1[q]?) ∧ (∀ a, a < 100 → ad a = G.2.2.2 a) ∧ ∀ a, ¬ (100 ≤ a ∧ a < m_nx M) → (m_sh M a).1 = 99
/-- the tables' words that keep through calls -/
def lwg : List Cond := lw_tbl.filter goodWord
theorem lwg_in {w : Cond} (h : w ∈ lwg) : w ∈ lw_tbl := (List.mem_filter.mp h).1
theorem lwg_good {w : Cond} (h : w ∈ lwg) : (w.onTables && w.keeps) = true ∨ ∃ ty, w = .arrayClass ty := good_of_word (List.mem_filter.mp h).2
theorem lwg_of {w : Cond} (i : Nat) (h : lw_tbl[i]? = some w) (hg : goodWord w = true) : w ∈ lwg := List.mem_filter.mpr ⟨List.mem_of_getElem? h, hg⟩
abbrev MR : Type := MethodName × ByteArray × Nat × Option FieldType
def Lv (ad : Nat → Nat) (ls : List Value) (n : Nat) (lsA : Array Slot) : Prop := lsA.size = n ∧ lv_wf lsA ∧ ∀ (i : Nat) (v : Value), ls[i]? = some v → v ≠ .null → lsA[i]? = some (.val (tr ad v))
abbrev OutV : Type := Option Value ⊕ String
def QcO (G : Gx) (ad0 : Nat → Nat) (n0 : Nat) (Φ : OutV → Mm → Prop) : Array Value → State → Outcome → State → Prop := fun _ s0 o t =>
  ∃ (v : Option Value) (M' : Mm) (ad' : Nat → Nat), o = .returned (v.map (tr ad')) ∧ Φ (.inl v) M' ∧ (∀ a, a < n0 → ad' a = ad0 a) ∧ n0 ≤ m_nx M' ∧ bdL (m_nx M') v.toList ∧ RelE G M' ad' t.heap ∧ s0.heap.size ≤ t.heap.size
def XcO (G : Gx) (ad0 : Nat → Nat) (n0 : Nat) (Φ : OutV → Mm → Prop) : String → State → State → Prop := fun E s0 t =>
  ∃ (M' : Mm) (ad' : Nat → Nat), Φ (.inr E) M' ∧ (∀ a, a < n0 → ad' a = ad0 a) ∧ n0 ≤ m_nx M' ∧ RelE G M' ad' t.heap ∧ s0.heap.size ≤ t.heap.size
def rmO (d mc ms : Nat) : Room := { frames := d, cells := mc, slots := ms, locals := 64 * d }
end
section
/-! what was there before: constants by their names (1 to 23 the WORDS, 24 all of them, 25, 26 two rows of ints, 31 to 53 texts, 61 to 83 their bytes) -/
def f_Z : List (String × String × String × Value) := [("BowingRow$Word", "UNKNOWN", "LBowingRow$Word;", .ref 1), ("BowingRow$Word", "PERSON", "LBowingRow$Word;", .ref 2), ("BowingRow$Word", "KNOWS", "LBowingRow$Word;", .ref 3), ("BowingRow$Word", "WAY", "LBowingRow$Word;", .ref 4), ("BowingRow$Word", "UNTIL", "LBowingRow$Word;", .ref 5), ("BowingRow$Word", "DUE", "LBowingRow$Word;", .ref 6), ("BowingRow$Word", "TIMES", "LBowingRow$Word;", .ref 7), ("BowingRow$Word", "BELL", "LBowingRow$Word;", .ref 8), ("BowingRow$Word", "SHUT", "LBowingRow$Word;", .ref 9), ("BowingRow$Word", "BOW", "LBowingRow$Word;", .ref 10), ("BowingRow$Word", "LAPSE", "LBowingRow$Word;", .ref 11), ("BowingRow$Word", "WORTH", "LBowingRow$Word;", .ref 12), ("BowingRow$Word", "MUST", "LBowingRow$Word;", .ref 13), ("BowingRow$Word", "OR", "LBowingRow$Word;", .ref 14), ("BowingRow$Word", "AND", "LBowingRow$Word;", .ref 15), ("BowingRow$Word", "NOT", "LBowingRow$Word;", .ref 16), ("BowingRow$Word", "AGE", "LBowingRow$Word;", .ref 17), ("BowingRow$Word", "LOAD", "LBowingRow$Word;", .ref 18), ("BowingRow$Word", "ERRAND", "LBowingRow$Word;", .ref 19), ("BowingRow$Word", "OLDER", "LBowingRow$Word;", .ref 20), ("BowingRow$Word", "HEAVIER", "LBowingRow$Word;", .ref 21), ("BowingRow$Word", "LONGER", "LBowingRow$Word;", .ref 22), ("BowingRow$Word", "HOUR", "LBowingRow$Word;", .ref 23), ("BowingRow$Word", "ALL", "[LBowingRow$Word;", .ref 24), ("BowingRow", "LEAST_FACT", "[I", .ref 25), ("BowingRow", "MOST_FACT", "[I", .ref 26), ("java/lang/String", "COMPACT_STRINGS", "Z", .int 1)]
def f_O : List (String × String × String × Nat × Value) := [("BowingRow$Word", "text", "Ljava/lang/String;", 1, .ref 31), ("BowingRow$Word", "meaning", "I", 1, .int 0), ("BowingRow$Word", "least", "I", 1, .int 0), ("BowingRow$Word", "most", "I", 1, .int 0), ("java/lang/String", "value", "[B", 31, .ref 61), ("java/lang/String", "coder", "B", 31, .int 0), ("BowingRow$Word", "text", "Ljava/lang/String;", 2, .ref 32), ("BowingRow$Word", "meaning", "I", 2, .int 0), ("BowingRow$Word", "least", "I", 2, .int 0), ("BowingRow$Word", "most", "I", 2, .int 0), ("java/lang/String", "value", "[B", 32, .ref 62), ("java/lang/String", "coder", "B", 32, .int 0), ("BowingRow$Word", "text", "Ljava/lang/String;", 3, .ref 33), ("BowingRow$Word", "meaning", "I", 3, .int 0), ("BowingRow$Word", "least", "I", 3, .int 0), ("BowingRow$Word", "most", "I", 3, .int 0), ("java/lang/String", "value", "[B", 33, .ref 63), ("java/lang/String", "coder", "B", 33, .int 0), ("BowingRow$Word", "text", "Ljava/lang/String;", 4, .ref 34), ("BowingRow$Word", "meaning", "I", 4, .int 0), ("BowingRow$Word", "least", "I", 4, .int 0), ("BowingRow$Word", "most", "I", 4, .int 4), ("java/lang/String", "value", "[B", 34, .ref 64), ("java/lang/String", "coder", "B", 34, .int 0), ("BowingRow$Word", "text", "Ljava/lang/String;", 5, .ref 35), ("BowingRow$Word", "meaning", "I", 5, .int 0), ("BowingRow$Word", "least", "I", 5, .int 0), ("BowingRow$Word", "most", "I", 5, .int 99), ("java/lang/String", "value", "[B", 35, .ref 65), ("java/lang/String", "coder", "B", 35, .int 0), ("BowingRow$Word", "text", "Ljava/lang/String;", 6, .ref 36), ("BowingRow$Word", "meaning", "I", 6, .int 2), ("BowingRow$Word", "least", "I", 6, .int 1), ("BowingRow$Word", "most", "I", 6, .int 99), ("java/lang/String", "value", "[B", 36, .ref 66), ("java/lang/String", "coder", "B", 36, .int 0), ("BowingRow$Word", "text", "Ljava/lang/String;", 7, .ref 37), ("BowingRow$Word", "meaning", "I", 7, .int 3), ("BowingRow$Word", "least", "I", 7, .int 1), ("BowingRow$Word", "most", "I", 7, .int 9), ("java/lang/String", "value", "[B", 37, .ref 67), ("java/lang/String", "coder", "B", 37, .int 0), ("BowingRow$Word", "text", "Ljava/lang/String;", 8, .ref 38), ("BowingRow$Word", "meaning", "I", 8, .int 4), ("BowingRow$Word", "least", "I", 8, .int 0), ("BowingRow$Word", "most", "I", 8, .int 999), ("java/lang/String", "value", "[B", 38, .ref 68), ("java/lang/String", "coder", "B", 38, .int 0), ("BowingRow$Word", "text", "Ljava/lang/String;", 9, .ref 39), ("BowingRow$Word", "meaning", "I", 9, .int 5), ("BowingRow$Word", "least", "I", 9, .int 0), ("BowingRow$Word", "most", "I", 9, .int 999), ("java/lang/String", "value", "[B", 39, .ref 69), ("java/lang/String", "coder", "B", 39, .int 0), ("BowingRow$Word", "text", "Ljava/lang/String;", 10, .ref 40), ("BowingRow$Word", "meaning", "I", 10, .int 6), ("BowingRow$Word", "least", "I", 10, .int 0), ("BowingRow$Word", "most", "I", 10, .int 9), ("java/lang/String", "value", "[B", 40, .ref 70), ("java/lang/String", "coder", "B", 40, .int 0), ("BowingRow$Word", "text", "Ljava/lang/String;", 11, .ref 41), ("BowingRow$Word", "meaning", "I", 11, .int 7), ("BowingRow$Word", "least", "I", 11, .int 1), ("BowingRow$Word", "most", "I", 11, .int 999), ("java/lang/String", "value", "[B", 41, .ref 71), ("java/lang/String", "coder", "B", 41, .int 0), ("BowingRow$Word", "text", "Ljava/lang/String;", 12, .ref 42), ("BowingRow$Word", "meaning", "I", 12, .int 8), ("BowingRow$Word", "least", "I", 12, .int 0), ("BowingRow$Word", "most", "I", 12, .int 0), ("java/lang/String", "value", "[B", 42, .ref 72), ("java/lang/String", "coder", "B", 42, .int 0), ("BowingRow$Word", "text", "Ljava/lang/String;", 13, .ref 43), ("BowingRow$Word", "meaning", "I", 13, .int 9), ("BowingRow$Word", "least", "I", 13, .int 0), ("BowingRow$Word", "most", "I", 13, .int 0), ("java/lang/String", "value", "[B", 43, .ref 73), ("java/lang/String", "coder", "B", 43, .int 0), ("BowingRow$Word", "text", "Ljava/lang/String;", 14, .ref 44), ("BowingRow$Word", "meaning", "I", 14, .int 0), ("BowingRow$Word", "least", "I", 14, .int 0), ("BowingRow$Word", "most", "I", 14, .int 0), ("java/lang/String", "value", "[B", 44, .ref 74), ("java/lang/String", "coder", "B", 44, .int 0), ("BowingRow$Word", "text", "Ljava/lang/String;", 15, .ref 45), ("BowingRow$Word", "meaning", "I", 15, .int 0), ("BowingRow$Word", "least", "I", 15, .int 0), ("BowingRow$Word", "most", "I", 15, .int 0), ("java/lang/String", "value", "[B", 45, .ref 75), ("java/lang/String", "coder", "B", 45, .int 0), ("BowingRow$Word", "text", "Ljava/lang/String;", 16, .ref 46), ("BowingRow$Word", "meaning", "I", 16, .int 0), ("BowingRow$Word", "least", "I", 16, .int 0), ("BowingRow$Word", "most", "I", 16, .int 0), ("java/lang/String", "value", "[B", 46, .ref 76), ("java/lang/String", "coder", "B", 46, .int 0), ("BowingRow$Word", "text", "Ljava/lang/String;", 17, .ref 47), ("BowingRow$Word", "meaning", "I", 17, .int (-1)), ("BowingRow$Word", "least", "I", 17, .int 0), ("BowingRow$Word", "most", "I", 17, .int 0), ("java/lang/String", "value", "[B", 47, .ref 77), ("java/lang/String", "coder", "B", 47, .int 0), ("BowingRow$Word", "text", "Ljava/lang/String;", 18, .ref 48), ("BowingRow$Word", "meaning", "I", 18, .int (-2)), ("BowingRow$Word", "least", "I", 18, .int 0), ("BowingRow$Word", "most", "I", 18, .int 0), ("java/lang/String", "value", "[B", 48, .ref 78), ("java/lang/String", "coder", "B", 48, .int 0), ("BowingRow$Word", "text", "Ljava/lang/String;", 19, .ref 49), ("BowingRow$Word", "meaning", "I", 19, .int (-3)), ("BowingRow$Word", "least", "I", 19, .int 0), ("BowingRow$Word", "most", "I", 19, .int 0), ("java/lang/String", "value", "[B", 49, .ref 79), ("java/lang/String", "coder", "B", 49, .int 0), ("BowingRow$Word", "text", "Ljava/lang/String;", 20, .ref 50), ("BowingRow$Word", "meaning", "I", 20, .int (-4)), ("BowingRow$Word", "least", "I", 20, .int 0), ("BowingRow$Word", "most", "I", 20, .int 0), ("java/lang/String", "value", "[B", 50, .ref 80), ("java/lang/String", "coder", "B", 50, .int 0), ("BowingRow$Word", "text", "Ljava/lang/String;", 21, .ref 51), ("BowingRow$Word", "meaning", "I", 21, .int (-5)), ("BowingRow$Word", "least", "I", 21, .int 0), ("BowingRow$Word", "most", "I", 21, .int 0), ("java/lang/String", "value", "[B", 51, .ref 81), ("java/lang/String", "coder", "B", 51, .int 0), ("BowingRow$Word", "text", "Ljava/lang/String;", 22, .ref 52), ("BowingRow$Word", "meaning", "I", 22, .int (-6)), ("BowingRow$Word", "least", "I", 22, .int 0), ("BowingRow$Word", "most", "I", 22, .int 0), ("java/lang/String", "value", "[B", 52, .ref 82), ("java/lang/String", "coder", "B", 52, .int 0), ("BowingRow$Word", "text", "Ljava/lang/String;", 23, .ref 53), ("BowingRow$Word", "meaning", "I", 23, .int (-7)), ("BowingRow$Word", "least", "I", 23, .int 0), ("BowingRow$Word", "most", "I", 23, .int 0), ("java/lang/String", "value", "[B", 53, .ref 83), ("java/lang/String", "coder", "B", 53, .int 0)]
def f_T : List (FieldType × Nat × Nat × List Value) := [(.byte, 61, 0, []), (.byte, 62, 6, [.int 112, .int 101, .int 114, .int 115, .int 111, .int 110]), (.byte, 63, 5, [.int 107, .int 110, .int 111, .int 119, .int 115]), (.byte, 64, 3, [.int 119, .int 97, .int 121]), (.byte, 65, 5, [.int 117, .int 110, .int 116, .int 105, .int 108]), (.byte, 66, 3, [.int 100, .int 117, .int 101]), (.byte, 67, 5, [.int 116, .int 105, .int 109, .int 101, .int 115]), (.byte, 68, 4, [.int 98, .int 101, .int 108, .int 108]), (.byte, 69, 4, [.int 115, .int 104, .int 117, .int 116]), (.byte, 70, 3, [.int 98, .int 111, .int 119]), (.byte, 71, 5, [.int 108, .int 97, .int 112, .int 115, .int 101]), (.byte, 72, 5, [.int 119, .int 111, .int 114, .int 116, .int 104]), (.byte, 73, 4, [.int 109, .int 117, .int 115, .int 116]), (.byte, 74, 2, [.int 111, .int 114]), (.byte, 75, 3, [.int 97, .int 110, .int 100]), (.byte, 76, 3, [.int 110, .int 111, .int 116]), (.byte, 77, 3, [.int 97, .int 103, .int 101]), (.byte, 78, 4, [.int 108, .int 111, .int 97, .int 100]), (.byte, 79, 6, [.int 101, .int 114, .int 114, .int 97, .int 110, .int 100]), (.byte, 80, 5, [.int 111, .int 108, .int 100, .int 101, .int 114]), (.byte, 81, 7, [.int 104, .int 101, .int 97, .int 118, .int 105, .int 101, .int 114]), (.byte, 82, 6, [.int 108, .int 111, .int 110, .int 103, .int 101, .int 114]), (.byte, 83, 4, [.int 104, .int 111, .int 117, .int 114]), (.object "BowingRow$Word", 24, 23, [.ref 1, .ref 2, .ref 3, .ref 4, .ref 5, .ref 6, .ref 7, .ref 8, .ref 9, .ref 10, .ref 11, .ref 12, .ref 13, .ref 14, .ref 15, .ref 16, .ref 17, .ref 18, .ref 19, .ref 20, .ref 21, .ref 22, .ref 23]), (.int, 25, 5, [.int 0, .int 0, .int 0, .int 1, .int 1]), (.int, 26, 5, [.int 999, .int 99, .int 9, .int 60, .int 999])]
def f_C : List (Nat × String) := [(1, "BowingRow$Word"), (31, "java/lang/String"), (2, "BowingRow$Word"), (32, "java/lang/String"), (3, "BowingRow$Word"), (33, "java/lang/String"), (4, "BowingRow$Word"), (34, "java/lang/String"), (5, "BowingRow$Word"), (35, "java/lang/String"), (6, "BowingRow$Word"), (36, "java/lang/String"), (7, "BowingRow$Word"), (37, "java/lang/String"), (8, "BowingRow$Word"), (38, "java/lang/String"), (9, "BowingRow$Word"), (39, "java/lang/String"), (10, "BowingRow$Word"), (40, "java/lang/String"), (11, "BowingRow$Word"), (41, "java/lang/String"), (12, "BowingRow$Word"), (42, "java/lang/String"), (13, "BowingRow$Word"), (43, "java/lang/String"), (14, "BowingRow$Word"), (44, "java/lang/String"), (15, "BowingRow$Word"), (45, "java/lang/String"), (16, "BowingRow$Word"), (46, "java/lang/String"), (17, "BowingRow$Word"), (47, "java/lang/String"), (18, "BowingRow$Word"), (48, "java/lang/String"), (19, "BowingRow$Word"), (49, "java/lang/String"), (20, "BowingRow$Word"), (50, "java/lang/String"), (21, "BowingRow$Word"), (51, "java/lang/String"), (22, "BowingRow$Word"), (52, "java/lang/String"), (23, "BowingRow$Word"), (53, "java/lang/String")]
def f_R : List (String × Nat × String) := [("BowingRow", 247, "no such call"), ("BowingRow", 299, "no such person"), ("BowingRow", 302, "no such number"), ("BowingRow", 304, "one and the same person"), ("BowingRow", 308, "too many persons")]
/-- the tables' words that keep through calls by laws of their own -/
def okX : Cond → Bool
  | .fieldLinkNest .. => true
  | .methodLinkNest .. => true
  | .castable .. => true
  | .declares .. => true
  | .arrayOver _ => true
  | _ => false
def lwx : List Cond := lw_tbl.filter okX
theorem ao_moved {ty : FieldType} {u U : State} (hvm : u.vm.Alike U.vm) (h : (Cond.arrayOver ty).before #[] u = true) : (Cond.arrayOver ty).before #[] U = true := by
  show (Cond.arrayOver ty).before #[] (u.setVm U.vm) = true
  rw [Cond.arrayOver_setVmC hvm]
  exact h
theorem lwx_warm {w : Cond} (hw : w ∈ lwx) {s U : State} (hW : s.WarmedH U.vm) (h : va_Nw w s) : va_Nw w U := by
  have hk := (List.mem_filter.mp hw).2
  cases w with
  | fieldLinkNest a i b n d h => exact va_Nw.warmF hW (by assumption)
  | methodLinkNest a i x h => exact va_Nw.warmM hW (by assumption)
  | castable C T => exact va_Nw.warmC hW h
  | declares x => exact va_Nw.warmD hW h
  | arrayOver ty => exact ao_moved hW.alike h
  | _ => cases hk
theorem lwx_same {w : Cond} (hw : w ∈ lwx) {s U : State} (hv : U.vm = s.vm) (h : va_Nw w s) : va_Nw w U := by
  have hk := (List.mem_filter.mp hw).2
  cases w with
  | fieldLinkNest a i b n d h => exact va_Nw.same rfl hv.symm (by assumption)
  | methodLinkNest a i x h => exact va_Nw.same rfl hv.symm (by assumption)
  | castable C T => exact va_Nw.same rfl hv.symm h
  | declares x => exact va_Nw.same rfl hv.symm h
  | arrayOver ty => exact ao_moved (by rw [hv]; exact Vm.Alike.refl _) h
  | _ => cases hk
def FF (G : Gx) (U : State) : Prop :=
  (∀ q ∈ f_Z, va_Z q.1 q.2.1 q.2.2.1 (tr G.2.2.2 q.2.2.2) (fun a => G.2.2.1.size ≤ a) U G.2.2.1) ∧
  (∀ q ∈ f_O, va_OF q.1 q.2.1 q.2.2.1 (tr G.2.2.2 q.2.2.2.2) (G.2.2.2 q.2.2.2.1) (fun a => G.2.2.1.size ≤ a) U G.2.2.1) ∧
  (∀ q ∈ f_T, va_T q.1 (G.2.2.2 q.2.1) q.2.2.1 (fun j => tr G.2.2.2 (q.2.2.2.getD j .null)) (fun a => G.2.2.1.size ≤ a) U G.2.2.1) ∧
  (∀ q ∈ f_C, va_O q.2 (G.2.2.2 q.1) (fun a => G.2.2.1.size ≤ a) U G.2.2.1) ∧
  (∀ i j, 1 ≤ i → i ≤ 23 → 1 ≤ j → j ≤ 23 → G.2.2.2 i = G.2.2.2 j → i = j) ∧
  (∀ q ∈ f_R, ∃ sa, vk_R q.1 q.2.1 q.2.2 sa U) ∧
  vx_Zq Bundle.tN "UNASSIGNED_STACK" Bundle.steD (fun a => G.2.2.1.size ≤ a) U G.2.2.1 ∧ vx_Zq Bundle.tN "SUPPRESSED_SENTINEL" Bundle.listD (fun a => G.2.2.1.size ≤ a) U G.2.2.1 ∧ ∀ w ∈ lwx, va_Nw w U
theorem FF.warm {G : Gx} {s U : State} (hW : s.WarmedH U.vm) (h : FF G s) : FF G U :=
  ⟨fun q hq => (h.1 q hq).moved hW.alike, fun q hq => (h.2.1 q hq).moved hW.alike, fun q hq => (h.2.2.1 q hq).moved hW.alike, fun q hq => (h.2.2.2.1 q hq).moved hW.alike, h.2.2.2.2.1,
    fun q hq => (h.2.2.2.2.2.1 q hq).elim fun sa hs => ⟨sa, hs.warm hW⟩, h.2.2.2.2.2.2.1.moved hW.alike, h.2.2.2.2.2.2.2.1.moved hW.alike, fun w hw => lwx_warm hw hW (h.2.2.2.2.2.2.2.2 w hw)⟩
theorem FF.same {G : Gx} {s U : State} (hv : U.vm = s.vm) (h : FF G s) : FF G U :=
  ⟨fun q hq => (h.1 q hq).moved (by rw [hv]; exact Vm.Alike.refl _), fun q hq => (h.2.1 q hq).moved (by rw [hv]; exact Vm.Alike.refl _), fun q hq => (h.2.2.1 q hq).moved (by rw [hv]; exact Vm.Alike.refl _), fun q hq => (h.2.2.2.1 q hq).moved (by rw [hv]; exact Vm.Alike.refl _), h.2.2.2.2.1,
    fun q hq => (h.2.2.2.2.2.1 q hq).elim fun sa hs => ⟨sa, hs.same hv⟩, h.2.2.2.2.2.2.1.moved (by rw [hv]; exact Vm.Alike.refl _), h.2.2.2.2.2.2.2.1.moved (by rw [hv]; exact Vm.Alike.refl _), fun w hw => lwx_same hw hv (h.2.2.2.2.2.2.2.2 w hw)⟩
def KG (G : Gx) (U : State) : Prop := va_K G.1 vwCl (kTys G.2.1) U ∧ FF G U
theorem KG.warm {G : Gx} {s U : State} (hW : s.WarmedH U.vm) (h : KG G s) : KG G U := ⟨va_K.moved hW.alike h.1, h.2.warm hW⟩
theorem KG.same {G : Gx} {s U : State} (hv : U.vm = s.vm) (h : KG G s) : KG G U := ⟨va_K.moved (by rw [hv]; exact Vm.Alike.refl _) h.1, h.2.same hv⟩
end
section
/-! ===== the two judgements: Ct (a method) and Ev (a frame of it) ===== -/
def FrOK (G : Gx) (y : MR) (p : Program) (s : State) (m : MethodId) (args : Array Value) (meth : Method) (c : Code) : Prop :=
  p.tables.exec = Jvm.exec ∧ c.code = y.2.1 ∧ meth.sig.returnType = y.2.2.2 ∧ c.maxLocals = y.2.2.1 ∧ s.vm.findClass y.1.cls = some m.cls ∧ (∀ w ∈ lwg, w.before args s = true) ∧ meth.locks = false ∧ meth.name = y.1.name ∧ KG G s ∧
  (∀ x ∈ c.exceptionTable.toList, False) ∧ G.2.2.1.size ≤ s.heap.size ∧ ∀ q : Nat, q < G.2.2.1.size → s.heap[q]? = G.2.2.1[q]?
def AtX (G : Gx) (ls st : List Value) (M : Mm) (bc bs : Nat) (s : State) (mc ms : Nat) (ad0 : Nat → Nat) (n0 : Nat) (H : Heap) (locs : List Loc) (cells slots : Nat) (ad : Nat → Nat) (lsA : Array Slot) (nL : Nat) : Prop :=
  cells + bc ≤ mc ∧ slots + bs ≤ ms ∧ RelE G M ad H ∧ va_S (fun q => G.2.2.1.size ≤ q) s.heap H locs ∧ Lv ad ls nL lsA ∧ bdL (m_nx M) ls ∧ bdL (m_nx M) st ∧ (∀ a, a < n0 → ad a = ad0 a) ∧ n0 ≤ m_nx M
def Ev (l : Launch) (G : Gx) (d : Nat) (y : MR) (pc : Nat) (ls st : List Value) (M : Mm) (bc bs : Nat) (Φ : OutV → Mm → Prop) : Prop :=
  ∀ (p : Program) (e : Env) (s : State) (m : MethodId) (args : Array Value) (below : List Frame) (meth : Method) (c : Code) (mc ms : Nat) (ad0 : Nat → Nat) (n0 : Nat) (H : Heap) (locs : List Loc) (cells slots : Nat) (ad : Nat → Nat) (lsA : Array Slot),
    FrOK G y p s m args meth c → AtX G ls st M bc bs s mc ms ad0 n0 H locs cells slots ad lsA y.2.2.1 →
    W p l e (rmO d mc ms) s m args below meth c H locs cells slots (vx_MQ below (QcO G ad0 n0 Φ) (XcO G ad0 n0 Φ) args s mc ms (fun q => G.2.2.1.size ≤ q)) (F0 m pc lsA (st.map (tr ad)))
def wsY (y : MR) : List Cond := Cond.code y.1 y.2.1 y.2.2.1 y.2.2.2 :: lwg
def Ct (l : Launch) (G : Gx) (d : Nat) (y : MR) (bc bs : Nat) (av : List Value) (M : Mm) (Φ : OutV → Mm → Prop) : Prop :=
  ∀ ad : Nat → Nat, bdL (m_nx M) av → vx_Met l y.1 (wsY y) (rmO d bc bs) (fun a U => a = (av.map (tr ad)).toArray ∧ RelE G M ad U.heap ∧ KG G U) (QcO G ad (m_nx M) Φ) (XcO G ad (m_nx M) Φ) bc bs (fun q => G.2.2.1.size ≤ q)
/-- the locals at the entry -/
def ent (av : List Value) (n : Nat) : List Value := (av.flatMap fun v => if v.category = 2 then [v, .null] else [v]) ++ List.replicate (n - (av.flatMap fun v => if v.category = 2 then [v, .null] else [v]).length) .null
section EV
variable {l : Launch} {G : Gx} {d : Nat} {y : MR} {pc : Nat} {ls st : List Value} {M : Mm} {bc bs : Nat} {Φ : OutV → Mm → Prop}
theorem lg_sl_tr (ad : Nat → Nat) (av : List Value) (i : Nat) (v : Value) : ((av.flatMap fun v => if v.category = 2 then [v, Value.null] else [v]))[i]? = some v → v ≠ .null → (lg_sl (av.map (tr ad)))[i]? = some (.val (tr ad v)) := by
  induction av generalizing i with
  | nil => intro h; simp at h
  | cons x xs ih =>
    intro h hv
    have hc := tr_cat ad x
    rw [List.flatMap_cons] at h
    show (List.flatMap _ (tr ad x :: xs.map (tr ad)))[i]? = _
    rw [List.flatMap_cons, hc]
    by_cases h2 : x.category = 2
    · rw [if_pos h2] at h ⊢
      match i, h with
      | 0, h => simp at h; subst h; rfl
      | 1, h => simp at h; exact absurd h.symm hv
      | i + 2, h => exact ih i (by simpa using h) hv
    · rw [if_neg h2] at h ⊢
      match i, h with
      | 0, h => simp at h; subst h; rfl
      | i + 1, h => exact ih i (by simpa using h) hv
theorem lg_len_tr (ad : Nat → Nat) (av : List Value) : (lg_sl (av.map (tr ad))).length = (av.flatMap fun v => if v.category = 2 then [v, Value.null] else [v]).length := by
  induction av with
  | nil => rfl
  | cons x xs ih =>
    have hc := tr_cat ad x
    have e1 : lg_sl ((x :: xs).map (tr ad)) = (if (tr ad x).category = 2 then [Slot.val (tr ad x), .second] else [.val (tr ad x)]) ++ lg_sl (xs.map (tr ad)) := rfl
    rw [e1, List.length_append, ih, List.flatMap_cons, List.length_append, hc]
    by_cases h2 : x.category = 2
    · rw [if_pos h2, if_pos h2]; rfl
    · rw [if_neg h2, if_neg h2]; rfl
theorem Lv_ent (ad : Nat → Nat) (av : List Value) (n : Nat) (h : (av.flatMap fun v => if v.category = 2 then [v, Value.null] else [v]).length ≤ n) :
    Lv ad (ent av n) n ((lg_sl (av.map (tr ad)) ++ List.replicate (n - (lg_sl (av.map (tr ad))).length) Slot.unset).toArray) := by
  have hl := lg_len_tr ad av
  have h0 := lv_entry (av.map (tr ad)) (n := n) (by rw [hl]; exact h)
  refine ⟨h0.1, h0.2.1, fun i v hi hv => ?_⟩
  rw [List.getElem?_toArray]
  by_cases hlt : i < (av.flatMap fun v => if v.category = 2 then [v, Value.null] else [v]).length
  · rw [ent, List.getElem?_append_left hlt] at hi
    rw [List.getElem?_append_left (by rw [hl]; exact hlt)]
    exact lg_sl_tr ad av i v hi hv
  · rw [ent, List.getElem?_append_right (by omega)] at hi
    exact absurd (List.eq_of_mem_replicate (List.mem_of_getElem? hi)) hv
theorem bd_ent {n : Nat} {av : List Value} {k : Nat} (h : bdL n av) : bdL n (ent av k) := by
  intro a ha
  rcases List.mem_append.mp ha with h1 | h1
  · obtain ⟨v, hv, hm⟩ := List.mem_flatMap.mp h1
    by_cases h2 : v.category = 2
    · rw [if_pos h2] at hm
      rcases List.mem_cons.mp hm with e | e
      · exact h a (e ▸ hv)
      · rcases List.mem_cons.mp e with e | e
        · cases e
        · cases e
    · rw [if_neg h2] at hm
      rcases List.mem_cons.mp hm with e | e
      · exact h a (e ▸ hv)
      · cases e
  · cases List.eq_of_mem_replicate h1
/-- a method's contract out of its frame's -/
theorem Ct.of {av : List Value} (hy : plainName y.1.cls = true) (hn : (av.flatMap fun v => if v.category = 2 then [v, Value.null] else [v]).length ≤ y.2.2.1)
    (h : Ev l G d y 0 (ent av y.2.2.1) [] M bc bs Φ) : Ct l G d y bc bs av M Φ := by
  intro ad hbd
  refine vx_ofW (cc := y.2.1) (maxL := y.2.2.1) (ret := y.2.2.2) hy rfl ?_
  intro p e s m args below meth c s₁ B hml hno hv
  obtain ⟨rfl, hR, hK⟩ := hv
  have hts := atoms_spec (ws := wsY y) B.pre
  rw [lg_entry_eq]
  have h1 : FrOK G y p s m (av.map (tr ad)).toArray meth c := ⟨B.exec, B.bytes, B.returns, hml, findClass_of_methodNamed B.named, fun w hw => hts w (List.mem_cons_of_mem _ hw), B.notSynchronized, (name_of_methodNamed B.named B.method).1, hK, hno, hR.2.2.2.2.1, hR.2.2.2.2.2.1⟩
  exact h p e s m _ below meth c bc bs ad (m_nx M) s.heap [] 0 0 ad _ h1 ⟨by omega, by omega, hR, va_S.rf, Lv_ent ad av _ hn, bd_ent hbd, (fun a h => by cases h), fun _ _ => rfl, Nat.le_refl _⟩
/-- an instruction that changes the operand stack alone -/
theorem Ev.st1 {pc2 : Nat} {st2 : List Value} (hbd : ∀ n, bdL n ls → bdL n st → bdL n st2)
    (h : ∀ (p : Program) (e : Env) (R : Room) (s : State) (m : MethodId) (args : Array Value) (below : List Frame) (meth : Method) (c : Code) (H : Heap) (locs : List Loc) (cells slots : Nat) (Q : State → Prop) (ad : Nat → Nat) (lsA : Array Slot), FrOK G y p s m args meth c → Lv ad ls y.2.2.1 lsA → RelE G M ad H → va_S (fun q => G.2.2.1.size ≤ q) s.heap H locs →
      W p l e R s m args below meth c H locs cells slots Q (F0 m pc2 lsA (st2.map (tr ad))) → W p l e R s m args below meth c H locs cells slots Q (F0 m pc lsA (st.map (tr ad))))
    (k : Ev l G d y pc2 ls st2 M bc bs Φ) : Ev l G d y pc ls st M bc bs Φ := by
  intro p e s m args below meth c mc ms ad0 n0 H locs cells slots ad lsA F X
  obtain ⟨x1, x2, x3, x4, x5, x6, x7, x8, x9⟩ := id X
  exact h p e _ s m args below meth c H locs cells slots _ ad lsA F x5 x3 x4 (k p e s m args below meth c mc ms ad0 n0 H locs cells slots ad lsA F ⟨x1, x2, x3, x4, x5, x6, hbd _ x6 x7, x8, x9⟩)
end EV
end
section
/-! ===== rules: constants, locals, operand stack, arithmetic, branches ===== -/
def sto (ls : List Value) (i : Nat) (v : Value) : List Value := (match i with
  | 0 => ls
  | j + 1 => match ls[j]? with
    | some w => if w.category = 2 then ls.set j .null else ls
    | none => ls).set i v
def prs (ad : Nat → Nat) (ls : List Value) : List (Nat × Value) := (List.range ls.length).filterMap fun i => match ls[i]? with
  | some Value.null => none
  | some v => some (i, tr ad v)
  | none => none
theorem prs_mem {ad : Nat → Nat} {ls : List Value} {i : Nat} {v : Value} (h : ls[i]? = some v) (hv : v ≠ .null) : (i, tr ad v) ∈ prs ad ls := by
  refine List.mem_filterMap.mpr ⟨i, List.mem_range.mpr (List.getElem?_eq_some_iff.mp h).1, ?_⟩
  rw [h]
  cases v <;> first | exact absurd rfl hv | rfl
theorem prs_of {ad : Nat → Nat} {ls : List Value} {q : Nat × Value} (h : q ∈ prs ad ls) : ∃ v, ls[q.1]? = some v ∧ v ≠ .null ∧ q.2 = tr ad v := by
  obtain ⟨i, -, hi⟩ := List.mem_filterMap.mp h
  cases hl : ls[i]? with
  | none => rw [hl] at hi; cases hi
  | some v =>
    rw [hl] at hi
    cases v <;> first | (exfalso; cases hi; done) | (cases hi; exact ⟨_, hl, (fun h => by cases h), rfl⟩)
theorem Lv.has {ad : Nat → Nat} {ls : List Value} {n : Nat} {lsA : Array Slot} (h : Lv ad ls n lsA) : lv_has lsA n (prs ad ls) :=
  ⟨h.1, h.2.1, fun q hq => by
    obtain ⟨v, h1, h2, h3⟩ := prs_of hq
    rw [h3]
    exact h.2.2 q.1 v h1 h2⟩
theorem Lv.at {ad : Nat → Nat} {ls : List Value} {n : Nat} {lsA : Array Slot} (h : Lv ad ls n lsA) {i : Nat} {v : Value} (hi : ls[i]? = some v) (hv : v ≠ .null) : lsA[i]? = some (.val (tr ad v)) := h.2.2 i v hi hv
theorem Lv.sto1 {ad : Nat → Nat} {ls : List Value} {n : Nat} {lsA : Array Slot} {i : Nat} {v : Value} (h : lv_has lsA n ((i, tr ad v) :: (prs ad ls).filter (fun q => !(q.1 == i) && !(q.1 + 1 == i && q.2.category == 2)))) : Lv ad (sto ls i v) n lsA := by
  refine ⟨h.1, h.2.1, fun j w hj hw => ?_⟩
  by_cases e : j = i
  · subst e
    have : w = v := by
      unfold sto at hj
      have hlt := (List.getElem?_eq_some_iff.mp hj).1
      rw [List.getElem?_set_self (by simpa using hlt)] at hj
      exact (Option.some.inj hj).symm
    subst this
    exact h.2.2 (j, tr ad w) List.mem_cons_self
  · have key : ls[j]? = some w ∧ ¬ (j + 1 = i ∧ w.category = 2) := by
      unfold sto at hj
      rw [List.getElem?_set_ne (Ne.symm e)] at hj
      match i, hj, e with
      | 0, hj, _ => exact ⟨hj, fun q => by cases q.1⟩
      | k + 1, hj, e =>
        cases hk : ls[k]? with
        | none =>
          simp only [hk] at hj
          exact ⟨hj, fun q => by have : j = k := by omega
                                 subst this; rw [hk] at hj; cases hj⟩
        | some u =>
          simp only [hk] at hj
          by_cases hc : u.category = 2
          · rw [if_pos hc] at hj
            by_cases ej : j = k
            · subst ej
              have hlt := (List.getElem?_eq_some_iff.mp hk).1
              rw [List.getElem?_set_self hlt] at hj
              exact absurd (Option.some.inj hj).symm hw
            · rw [List.getElem?_set_ne (Ne.symm ej)] at hj
              exact ⟨hj, fun q => ej (by omega)⟩
          · rw [if_neg hc] at hj
            refine ⟨hj, fun q => ?_⟩
            have : j = k := by omega
            subst this
            rw [hk] at hj
            cases hj
            exact hc q.2
    refine h.2.2 (j, tr ad w) (List.mem_cons_of_mem _ (List.mem_filter.mpr ⟨prs_mem key.1 hw, ?_⟩))
    simp only [Bool.and_eq_true, Bool.not_eq_true', beq_eq_false_iff_ne, ne_eq, Bool.and_eq_false_iff, tr_cat]
    refine ⟨e, ?_⟩
    by_cases h1 : j + 1 = i
    · exact Or.inr fun q => key.2 ⟨h1, q⟩
    · exact Or.inl h1
theorem bd_sto {n : Nat} {ls : List Value} {i : Nat} {v : Value} (h : bdL n ls) (hv : bdL n [v]) : bdL n (sto ls i v) := by
  intro a ha
  unfold sto at ha
  rcases List.mem_or_eq_of_mem_set ha with h1 | h1
  · match i, h1 with
    | 0, h1 => exact h a h1
    | k + 1, h1 =>
      cases hk : ls[k]? with
      | none => simp only [hk] at h1; exact h a h1
      | some u =>
        simp only [hk] at h1
        by_cases hc : u.category = 2
        · rw [if_pos hc] at h1
          rcases List.mem_or_eq_of_mem_set h1 with h2 | h2
          · exact h a h2
          · cases h2
        · rw [if_neg hc] at h1
          exact h a h1
  · exact hv a (by rw [h1]; exact List.mem_cons_self)
theorem bd_t {n : Nat} {v : Value} {st : List Value} (h : bdL n (v :: st)) : bdL n st := fun a ha => h a (List.mem_cons_of_mem _ ha)
theorem bd_i {n : Nat} {x : Int32} {st : List Value} (h : bdL n st) : bdL n (.int x :: st) := fun a ha => (List.mem_cons.mp ha).elim (fun e => by cases e) (h a)
theorem bd_l {n : Nat} {x : Int64} {st : List Value} (h : bdL n st) : bdL n (.long x :: st) := fun a ha => (List.mem_cons.mp ha).elim (fun e => by cases e) (h a)
theorem bd_r {n b : Nat} {st : List Value} (hb : b < n) (h : bdL n st) : bdL n (.ref b :: st) := fun a ha => (List.mem_cons.mp ha).elim (fun e => by cases e; exact hb) (h a)
theorem bd_h {n b : Nat} {st : List Value} (h : bdL n (.ref b :: st)) : b < n := h b List.mem_cons_self
theorem bd_at {n b i : Nat} {ls : List Value} (h : bdL n ls) (hi : ls[i]? = some (.ref b)) : b < n := h b (List.mem_of_getElem? hi)
theorem bd_v {n : Nat} {v : Value} {st : List Value} (h : bdL n (v :: st)) : bdL n [v] := fun a ha => h a ((List.mem_cons.mp ha).elim (fun e => by rw [e]; exact List.mem_cons_self) (fun e => by cases e))
section R1
variable {l : Launch} {G : Gx} {d : Nat} {y : MR} {pc : Nat} {ls st : List Value} {M : Mm} {bc bs : Nat} {Φ : OutV → Mm → Prop}

theorem Ev.iconst {n : Int} {v : Int32} (hd : decode y.2.1 pc = .ok (.iconst n, 1)) (hv : Int32.ofInt n = v) (k : Ev l G d y (pc + 1) ls (.int v :: st) M bc bs Φ) : Ev l G d y pc ls (st) M bc bs Φ :=
  Ev.st1 (fun n hls h => bd_i h) (fun p e R s m args below meth c H locs cells slots Q ad lsA F L X S k => lv_iconst F.1 F.2.1 hd hv k) k
theorem Ev.bipush {n : Int} {v : Int32} (hd : decode y.2.1 pc = .ok (.bipush n, 2)) (hv : (Int8.ofInt n).toInt32 = v) (k : Ev l G d y (pc + 2) ls (.int v :: st) M bc bs Φ) : Ev l G d y pc ls (st) M bc bs Φ :=
  Ev.st1 (fun n hls h => bd_i h) (fun p e R s m args below meth c H locs cells slots Q ad lsA F L X S k => lv_bipush F.1 F.2.1 hd hv k) k
theorem Ev.sipush {n : Int} {v : Int32} (hd : decode y.2.1 pc = .ok (.sipush n, 3)) (hv : (Int16.ofInt n).toInt32 = v) (k : Ev l G d y (pc + 3) ls (.int v :: st) M bc bs Φ) : Ev l G d y pc ls (st) M bc bs Φ :=
  Ev.st1 (fun n hls h => bd_i h) (fun p e R s m args below meth c H locs cells slots Q ad lsA F L X S k => lv_sipush F.1 F.2.1 hd hv k) k
theorem Ev.lconst {n : Fin 2} {v : Int64} (hd : decode y.2.1 pc = .ok (.lconst n, 1)) (hv : Int64.ofNat (n : Nat) = v) (k : Ev l G d y (pc + 1) ls (.long v :: st) M bc bs Φ) : Ev l G d y pc ls (st) M bc bs Φ :=
  Ev.st1 (fun n hls h => bd_l h) (fun p e R s m args below meth c H locs cells slots Q ad lsA F L X S k => lv_lconst F.1 F.2.1 hd hv k) k
theorem Ev.ldc {i : Nat} {v : Int32} (hd : decode y.2.1 pc = .ok (.ldc i, 2)) (hw : Cond.constant y.1.cls i v ∈ lwg) (k : Ev l G d y (pc + 2) ls (.int v :: st) M bc bs Φ) : Ev l G d y pc ls (st) M bc bs Φ :=
  Ev.st1 (fun n hls h => bd_i h) (fun p e R s m args below meth c H locs cells slots Q ad lsA F L X S k => lv_ldc F.1 F.2.1 F.2.2.2.2.1 (F.2.2.2.2.2.1 _ hw) hd k) k
theorem Ev.ldc_w {i : Nat} {v : Int32} (hd : decode y.2.1 pc = .ok (.ldc_w i, 3)) (hw : Cond.constant y.1.cls i v ∈ lwg) (k : Ev l G d y (pc + 3) ls (.int v :: st) M bc bs Φ) : Ev l G d y pc ls (st) M bc bs Φ :=
  Ev.st1 (fun n hls h => bd_i h) (fun p e R s m args below meth c H locs cells slots Q ad lsA F L X S k => lv_ldcw F.1 F.2.1 F.2.2.2.2.1 (F.2.2.2.2.2.1 _ hw) hd k) k
theorem Ev.ldc2_w {i : Nat} {v : Int64} (hd : decode y.2.1 pc = .ok (.ldc2_w i, 3)) (hw : Cond.constantLong y.1.cls i v ∈ lwg) (k : Ev l G d y (pc + 3) ls (.long v :: st) M bc bs Φ) : Ev l G d y pc ls (st) M bc bs Φ :=
  Ev.st1 (fun n hls h => bd_l h) (fun p e R s m args below meth c H locs cells slots Q ad lsA F L X S k => lv_ldc2 F.1 F.2.1 F.2.2.2.2.1 (F.2.2.2.2.2.1 _ hw) hd k) k
theorem Ev.iload_n {j : Fin 4} {x : Int32} (hd : decode y.2.1 pc = .ok (.iload_n j, 1)) (hl : ls[(j : Nat)]? = some (.int x)) (k : Ev l G d y (pc + 1) ls (.int x :: st) M bc bs Φ) : Ev l G d y pc ls (st) M bc bs Φ :=
  Ev.st1 (fun n hls h => bd_i h) (fun p e R s m args below meth c H locs cells slots Q ad lsA F L X S k => lv_iload_n F.1 F.2.1 hd rfl (L.at hl (fun h => by cases h)) k) k
theorem Ev.iload {i : Nat} {x : Int32} (hd : decode y.2.1 pc = .ok (.iload i, 2)) (hl : ls[i]? = some (.int x)) (k : Ev l G d y (pc + 2) ls (.int x :: st) M bc bs Φ) : Ev l G d y pc ls (st) M bc bs Φ :=
  Ev.st1 (fun n hls h => bd_i h) (fun p e R s m args below meth c H locs cells slots Q ad lsA F L X S k => lv_iload F.1 F.2.1 hd (L.at hl (fun h => by cases h)) k) k
theorem Ev.lload_n {j : Fin 4} {x : Int64} (hd : decode y.2.1 pc = .ok (.lload_n j, 1)) (hl : ls[(j : Nat)]? = some (.long x)) (k : Ev l G d y (pc + 1) ls (.long x :: st) M bc bs Φ) : Ev l G d y pc ls (st) M bc bs Φ :=
  Ev.st1 (fun n hls h => bd_l h) (fun p e R s m args below meth c H locs cells slots Q ad lsA F L X S k => lv_lload_n F.1 F.2.1 hd rfl (L.at hl (fun h => by cases h)) k) k
theorem Ev.lload {i : Nat} {x : Int64} (hd : decode y.2.1 pc = .ok (.lload i, 2)) (hl : ls[i]? = some (.long x)) (k : Ev l G d y (pc + 2) ls (.long x :: st) M bc bs Φ) : Ev l G d y pc ls (st) M bc bs Φ :=
  Ev.st1 (fun n hls h => bd_l h) (fun p e R s m args below meth c H locs cells slots Q ad lsA F L X S k => lv_lload F.1 F.2.1 hd (L.at hl (fun h => by cases h)) k) k
theorem Ev.aload_n {j : Fin 4} {x : Nat} (hd : decode y.2.1 pc = .ok (.aload_n j, 1)) (hl : ls[(j : Nat)]? = some (.ref x)) (k : Ev l G d y (pc + 1) ls (.ref x :: st) M bc bs Φ) : Ev l G d y pc ls (st) M bc bs Φ :=
  Ev.st1 (fun n hls h => bd_r (bd_at hls hl) h) (fun p e R s m args below meth c H locs cells slots Q ad lsA F L X S k => (match x, hl, k with | 0, hl, k => lv_aload_nN F.1 F.2.1 hd rfl (L.at hl (fun h => by cases h)) k | x + 1, hl, k => lv_aload_n F.1 F.2.1 hd rfl (L.at hl (fun h => by cases h)) k)) k
theorem Ev.aload {i : Nat} {x : Nat} (hd : decode y.2.1 pc = .ok (.aload i, 2)) (hl : ls[i]? = some (.ref x)) (k : Ev l G d y (pc + 2) ls (.ref x :: st) M bc bs Φ) : Ev l G d y pc ls (st) M bc bs Φ :=
  Ev.st1 (fun n hls h => bd_r (bd_at hls hl) h) (fun p e R s m args below meth c H locs cells slots Q ad lsA F L X S k => (match x, hl, k with | 0, hl, k => lv_aloadN F.1 F.2.1 hd (L.at hl (fun h => by cases h)) k | x + 1, hl, k => lv_aload F.1 F.2.1 hd (L.at hl (fun h => by cases h)) k)) k
theorem Ev.iadd {x z : Int32} (hd : decode y.2.1 pc = .ok (.iadd, 1)) (k : Ev l G d y (pc + 1) ls (.int (x + z) :: st) M bc bs Φ) : Ev l G d y pc ls (.int z :: .int x :: st) M bc bs Φ :=
  Ev.st1 (fun n hls h => bd_i (bd_t (bd_t h))) (fun p e R s m args below meth c H locs cells slots Q ad lsA F L X S k => lv_iadd F.1 F.2.1 hd k) k
theorem Ev.isub {x z : Int32} (hd : decode y.2.1 pc = .ok (.isub, 1)) (k : Ev l G d y (pc + 1) ls (.int (x - z) :: st) M bc bs Φ) : Ev l G d y pc ls (.int z :: .int x :: st) M bc bs Φ :=
  Ev.st1 (fun n hls h => bd_i (bd_t (bd_t h))) (fun p e R s m args below meth c H locs cells slots Q ad lsA F L X S k => lv_isub F.1 F.2.1 hd k) k
theorem Ev.imul {x z : Int32} (hd : decode y.2.1 pc = .ok (.imul, 1)) (k : Ev l G d y (pc + 1) ls (.int (x * z) :: st) M bc bs Φ) : Ev l G d y pc ls (.int z :: .int x :: st) M bc bs Φ :=
  Ev.st1 (fun n hls h => bd_i (bd_t (bd_t h))) (fun p e R s m args below meth c H locs cells slots Q ad lsA F L X S k => lv_imul F.1 F.2.1 hd k) k
theorem Ev.iand {x z : Int32} (hd : decode y.2.1 pc = .ok (.iand, 1)) (k : Ev l G d y (pc + 1) ls (.int (x &&& z) :: st) M bc bs Φ) : Ev l G d y pc ls (.int z :: .int x :: st) M bc bs Φ :=
  Ev.st1 (fun n hls h => bd_i (bd_t (bd_t h))) (fun p e R s m args below meth c H locs cells slots Q ad lsA F L X S k => lv_iand F.1 F.2.1 hd k) k
theorem Ev.ior {x z : Int32} (hd : decode y.2.1 pc = .ok (.ior, 1)) (k : Ev l G d y (pc + 1) ls (.int (x ||| z) :: st) M bc bs Φ) : Ev l G d y pc ls (.int z :: .int x :: st) M bc bs Φ :=
  Ev.st1 (fun n hls h => bd_i (bd_t (bd_t h))) (fun p e R s m args below meth c H locs cells slots Q ad lsA F L X S k => lv_ior F.1 F.2.1 hd k) k
theorem Ev.ixor {x z : Int32} (hd : decode y.2.1 pc = .ok (.ixor, 1)) (k : Ev l G d y (pc + 1) ls (.int (x ^^^ z) :: st) M bc bs Φ) : Ev l G d y pc ls (.int z :: .int x :: st) M bc bs Φ :=
  Ev.st1 (fun n hls h => bd_i (bd_t (bd_t h))) (fun p e R s m args below meth c H locs cells slots Q ad lsA F L X S k => lv_ixor F.1 F.2.1 hd k) k
theorem Ev.ishl {x z : Int32} (hd : decode y.2.1 pc = .ok (.ishl, 1)) (k : Ev l G d y (pc + 1) ls (.int (x <<< (z &&& 31)) :: st) M bc bs Φ) : Ev l G d y pc ls (.int z :: .int x :: st) M bc bs Φ :=
  Ev.st1 (fun n hls h => bd_i (bd_t (bd_t h))) (fun p e R s m args below meth c H locs cells slots Q ad lsA F L X S k => lv_ishl F.1 F.2.1 hd k) k
theorem Ev.ishr {x z : Int32} (hd : decode y.2.1 pc = .ok (.ishr, 1)) (k : Ev l G d y (pc + 1) ls (.int (x >>> (z &&& 31)) :: st) M bc bs Φ) : Ev l G d y pc ls (.int z :: .int x :: st) M bc bs Φ :=
  Ev.st1 (fun n hls h => bd_i (bd_t (bd_t h))) (fun p e R s m args below meth c H locs cells slots Q ad lsA F L X S k => lv_ishr F.1 F.2.1 hd k) k
theorem Ev.iushr {x z : Int32} (hd : decode y.2.1 pc = .ok (.iushr, 1)) (k : Ev l G d y (pc + 1) ls (.int ((x.toUInt32 >>> (z.toUInt32 &&& Int32.toUInt32 31)).toInt32) :: st) M bc bs Φ) : Ev l G d y pc ls (.int z :: .int x :: st) M bc bs Φ :=
  Ev.st1 (fun n hls h => bd_i (bd_t (bd_t h))) (fun p e R s m args below meth c H locs cells slots Q ad lsA F L X S k => lv_iushr F.1 F.2.1 hd rfl k) k
theorem Ev.idiv {x z : Int32} (hd : decode y.2.1 pc = .ok (.idiv, 1)) (hz : ¬ z = 0) (k : Ev l G d y (pc + 1) ls (.int (x / z) :: st) M bc bs Φ) : Ev l G d y pc ls (.int z :: .int x :: st) M bc bs Φ :=
  Ev.st1 (fun n hls h => bd_i (bd_t (bd_t h))) (fun p e R s m args below meth c H locs cells slots Q ad lsA F L X S k => lv_idiv F.1 F.2.1 hd hz k) k
theorem Ev.irem {x z : Int32} (hd : decode y.2.1 pc = .ok (.irem, 1)) (hz : ¬ z = 0) (k : Ev l G d y (pc + 1) ls (.int (x - x / z * z) :: st) M bc bs Φ) : Ev l G d y pc ls (.int z :: .int x :: st) M bc bs Φ :=
  Ev.st1 (fun n hls h => bd_i (bd_t (bd_t h))) (fun p e R s m args below meth c H locs cells slots Q ad lsA F L X S k => lv_irem F.1 F.2.1 hd hz k) k
theorem Ev.ineg {x : Int32} (hd : decode y.2.1 pc = .ok (.ineg, 1)) (k : Ev l G d y (pc + 1) ls (.int (-x) :: st) M bc bs Φ) : Ev l G d y pc ls (.int x :: st) M bc bs Φ :=
  Ev.st1 (fun n hls h => bd_i (bd_t h)) (fun p e R s m args below meth c H locs cells slots Q ad lsA F L X S k => lv_ineg F.1 F.2.1 hd k) k
theorem Ev.i2l {x : Int32} (hd : decode y.2.1 pc = .ok (.i2l, 1)) (k : Ev l G d y (pc + 1) ls (.long x.toInt64 :: st) M bc bs Φ) : Ev l G d y pc ls (.int x :: st) M bc bs Φ :=
  Ev.st1 (fun n hls h => bd_l (bd_t h)) (fun p e R s m args below meth c H locs cells slots Q ad lsA F L X S k => lv_i2l F.1 F.2.1 hd rfl k) k
theorem Ev.i2b {x : Int32} (hd : decode y.2.1 pc = .ok (.i2b, 1)) (k : Ev l G d y (pc + 1) ls (.int x.toInt8.toInt32 :: st) M bc bs Φ) : Ev l G d y pc ls (.int x :: st) M bc bs Φ :=
  Ev.st1 (fun n hls h => bd_i (bd_t h)) (fun p e R s m args below meth c H locs cells slots Q ad lsA F L X S k => lv_i2b F.1 F.2.1 hd rfl k) k
theorem Ev.i2c {x : Int32} (hd : decode y.2.1 pc = .ok (.i2c, 1)) (k : Ev l G d y (pc + 1) ls (.int x.toUInt32.toUInt16.toUInt32.toInt32 :: st) M bc bs Φ) : Ev l G d y pc ls (.int x :: st) M bc bs Φ :=
  Ev.st1 (fun n hls h => bd_i (bd_t h)) (fun p e R s m args below meth c H locs cells slots Q ad lsA F L X S k => lv_i2c F.1 F.2.1 hd rfl k) k
theorem Ev.ladd {x z : Int64} (hd : decode y.2.1 pc = .ok (.ladd, 1)) (k : Ev l G d y (pc + 1) ls (.long (x + z) :: st) M bc bs Φ) : Ev l G d y pc ls (.long z :: .long x :: st) M bc bs Φ :=
  Ev.st1 (fun n hls h => bd_l (bd_t (bd_t h))) (fun p e R s m args below meth c H locs cells slots Q ad lsA F L X S k => lv_ladd F.1 F.2.1 hd k) k
theorem Ev.lsub {x z : Int64} (hd : decode y.2.1 pc = .ok (.lsub, 1)) (k : Ev l G d y (pc + 1) ls (.long (x - z) :: st) M bc bs Φ) : Ev l G d y pc ls (.long z :: .long x :: st) M bc bs Φ :=
  Ev.st1 (fun n hls h => bd_l (bd_t (bd_t h))) (fun p e R s m args below meth c H locs cells slots Q ad lsA F L X S k => lv_lsub F.1 F.2.1 hd k) k
theorem Ev.lmul {x z : Int64} (hd : decode y.2.1 pc = .ok (.lmul, 1)) (k : Ev l G d y (pc + 1) ls (.long (x * z) :: st) M bc bs Φ) : Ev l G d y pc ls (.long z :: .long x :: st) M bc bs Φ :=
  Ev.st1 (fun n hls h => bd_l (bd_t (bd_t h))) (fun p e R s m args below meth c H locs cells slots Q ad lsA F L X S k => lv_lmul F.1 F.2.1 hd k) k
theorem Ev.lcmp {x z : Int64} (hd : decode y.2.1 pc = .ok (.lcmp, 1)) (k : Ev l G d y (pc + 1) ls (.int (lg_cmp x z) :: st) M bc bs Φ) : Ev l G d y pc ls (.long z :: .long x :: st) M bc bs Φ :=
  Ev.st1 (fun n hls h => bd_i (bd_t (bd_t h))) (fun p e R s m args below meth c H locs cells slots Q ad lsA F L X S k => W.lcmp F.1 F.2.1 hd k) k
theorem Ev.dup {v : Value} (hd : decode y.2.1 pc = .ok (.dup, 1)) (hv : v.category = 1) (k : Ev l G d y (pc + 1) ls (v :: v :: st) M bc bs Φ) : Ev l G d y pc ls (v :: st) M bc bs Φ :=
  Ev.st1 (fun n hls h => (fun a ha => h a ((List.mem_cons.mp ha).elim (fun e => by rw [e]; exact List.mem_cons_self) id))) (fun p e R s m args below meth c H locs cells slots Q ad lsA F L X S k => lv_dup F.1 F.2.1 hd (by rw [tr_cat]; exact hv) k) k
theorem Ev.dup2 {v w : Value} (hd : decode y.2.1 pc = .ok (.dup2, 1)) (hv : v.category = 1) (hw : w.category = 1) (k : Ev l G d y (pc + 1) ls (v :: w :: v :: w :: st) M bc bs Φ) : Ev l G d y pc ls (v :: w :: st) M bc bs Φ :=
  Ev.st1 (fun n hls h => (fun a ha => h a ((List.mem_cons.mp ha).elim (fun e => by rw [e]; exact List.mem_cons_self) (fun ha => (List.mem_cons.mp ha).elim (fun e => by rw [e]; exact List.mem_cons_of_mem _ List.mem_cons_self) id)))) (fun p e R s m args below meth c H locs cells slots Q ad lsA F L X S k => lv_dup2_11 F.1 F.2.1 hd (by rw [tr_cat]; exact hv) (by rw [tr_cat]; exact hw) k) k
theorem Ev.pop {v : Value} (hd : decode y.2.1 pc = .ok (.pop, 1)) (hv : v.category = 1) (k : Ev l G d y (pc + 1) ls (st) M bc bs Φ) : Ev l G d y pc ls (v :: st) M bc bs Φ :=
  Ev.st1 (fun n hls h => bd_t h) (fun p e R s m args below meth c H locs cells slots Q ad lsA F L X S k => lv_pop F.1 F.2.1 hd (by rw [tr_cat]; exact hv) k) k
theorem Ev.goto {off : Int} (tgt : Nat) (hd : decode y.2.1 pc = .ok (.goto off, 3)) (ht : (pc : Int) + off = (tgt : Int)) (k : Ev l G d y tgt ls st M bc bs Φ) : Ev l G d y pc ls st M bc bs Φ :=
  Ev.st1 (fun n hls h => h) (fun p e R s m args below meth c H locs cells slots Q ad lsA F L X S k => lv_goto F.1 F.2.1 hd ht k) k
theorem Ev.if_eq {x : Int32} {off : Int} (tgt : Nat) (ht : (pc : Int) + off = (tgt : Int)) (hd : decode y.2.1 pc = .ok (.ifCond .eq off, 3)) (kt : x = 0 → Ev l G d y tgt ls st M bc bs Φ) (kf : ¬ x = 0 → Ev l G d y (pc + 3) ls st M bc bs Φ) : Ev l G d y pc ls (.int x :: st) M bc bs Φ := by
  intro p e s m args below meth c mc ms ad0 n0 H locs cells slots ad lsA F X
  obtain ⟨x1, x2, x3, x4, x5, x6, x7, x8, x9⟩ := id X
  have x7' := bd_t x7
  exact lv_if_eq F.1 F.2.1 hd ht (fun h => kt h p e s m args below meth c mc ms ad0 n0 H locs cells slots ad lsA F ⟨x1, x2, x3, x4, x5, x6, x7', x8, x9⟩) (fun h => kf h p e s m args below meth c mc ms ad0 n0 H locs cells slots ad lsA F ⟨x1, x2, x3, x4, x5, x6, x7', x8, x9⟩)
theorem Ev.icmp_eq {x z : Int32} {off : Int} (tgt : Nat) (ht : (pc : Int) + off = (tgt : Int)) (hd : decode y.2.1 pc = .ok (.if_icmp .eq off, 3)) (kt : x = z → Ev l G d y tgt ls st M bc bs Φ) (kf : ¬ x = z → Ev l G d y (pc + 3) ls st M bc bs Φ) : Ev l G d y pc ls (.int z :: .int x :: st) M bc bs Φ := by
  intro p e s m args below meth c mc ms ad0 n0 H locs cells slots ad lsA F X
  obtain ⟨x1, x2, x3, x4, x5, x6, x7, x8, x9⟩ := id X
  have x7' := bd_t (bd_t x7)
  exact lv_icmp_eq F.1 F.2.1 hd ht (fun h => kt h p e s m args below meth c mc ms ad0 n0 H locs cells slots ad lsA F ⟨x1, x2, x3, x4, x5, x6, x7', x8, x9⟩) (fun h => kf h p e s m args below meth c mc ms ad0 n0 H locs cells slots ad lsA F ⟨x1, x2, x3, x4, x5, x6, x7', x8, x9⟩)
theorem Ev.if_ne {x : Int32} {off : Int} (tgt : Nat) (ht : (pc : Int) + off = (tgt : Int)) (hd : decode y.2.1 pc = .ok (.ifCond .ne off, 3)) (kt : ¬ x = 0 → Ev l G d y tgt ls st M bc bs Φ) (kf : x = 0 → Ev l G d y (pc + 3) ls st M bc bs Φ) : Ev l G d y pc ls (.int x :: st) M bc bs Φ := by
  intro p e s m args below meth c mc ms ad0 n0 H locs cells slots ad lsA F X
  obtain ⟨x1, x2, x3, x4, x5, x6, x7, x8, x9⟩ := id X
  have x7' := bd_t x7
  exact lv_if_ne F.1 F.2.1 hd ht (fun h => kt h p e s m args below meth c mc ms ad0 n0 H locs cells slots ad lsA F ⟨x1, x2, x3, x4, x5, x6, x7', x8, x9⟩) (fun h => kf h p e s m args below meth c mc ms ad0 n0 H locs cells slots ad lsA F ⟨x1, x2, x3, x4, x5, x6, x7', x8, x9⟩)
theorem Ev.icmp_ne {x z : Int32} {off : Int} (tgt : Nat) (ht : (pc : Int) + off = (tgt : Int)) (hd : decode y.2.1 pc = .ok (.if_icmp .ne off, 3)) (kt : ¬ x = z → Ev l G d y tgt ls st M bc bs Φ) (kf : x = z → Ev l G d y (pc + 3) ls st M bc bs Φ) : Ev l G d y pc ls (.int z :: .int x :: st) M bc bs Φ := by
  intro p e s m args below meth c mc ms ad0 n0 H locs cells slots ad lsA F X
  obtain ⟨x1, x2, x3, x4, x5, x6, x7, x8, x9⟩ := id X
  have x7' := bd_t (bd_t x7)
  exact lv_icmp_ne F.1 F.2.1 hd ht (fun h => kt h p e s m args below meth c mc ms ad0 n0 H locs cells slots ad lsA F ⟨x1, x2, x3, x4, x5, x6, x7', x8, x9⟩) (fun h => kf h p e s m args below meth c mc ms ad0 n0 H locs cells slots ad lsA F ⟨x1, x2, x3, x4, x5, x6, x7', x8, x9⟩)
theorem Ev.if_lt {x : Int32} {off : Int} (tgt : Nat) (ht : (pc : Int) + off = (tgt : Int)) (hd : decode y.2.1 pc = .ok (.ifCond .lt off, 3)) (kt : x < 0 → Ev l G d y tgt ls st M bc bs Φ) (kf : ¬ x < 0 → Ev l G d y (pc + 3) ls st M bc bs Φ) : Ev l G d y pc ls (.int x :: st) M bc bs Φ := by
  intro p e s m args below meth c mc ms ad0 n0 H locs cells slots ad lsA F X
  obtain ⟨x1, x2, x3, x4, x5, x6, x7, x8, x9⟩ := id X
  have x7' := bd_t x7
  exact lv_if_lt F.1 F.2.1 hd ht (fun h => kt h p e s m args below meth c mc ms ad0 n0 H locs cells slots ad lsA F ⟨x1, x2, x3, x4, x5, x6, x7', x8, x9⟩) (fun h => kf h p e s m args below meth c mc ms ad0 n0 H locs cells slots ad lsA F ⟨x1, x2, x3, x4, x5, x6, x7', x8, x9⟩)
theorem Ev.icmp_lt {x z : Int32} {off : Int} (tgt : Nat) (ht : (pc : Int) + off = (tgt : Int)) (hd : decode y.2.1 pc = .ok (.if_icmp .lt off, 3)) (kt : x < z → Ev l G d y tgt ls st M bc bs Φ) (kf : ¬ x < z → Ev l G d y (pc + 3) ls st M bc bs Φ) : Ev l G d y pc ls (.int z :: .int x :: st) M bc bs Φ := by
  intro p e s m args below meth c mc ms ad0 n0 H locs cells slots ad lsA F X
  obtain ⟨x1, x2, x3, x4, x5, x6, x7, x8, x9⟩ := id X
  have x7' := bd_t (bd_t x7)
  exact lv_icmp_lt F.1 F.2.1 hd ht (fun h => kt h p e s m args below meth c mc ms ad0 n0 H locs cells slots ad lsA F ⟨x1, x2, x3, x4, x5, x6, x7', x8, x9⟩) (fun h => kf h p e s m args below meth c mc ms ad0 n0 H locs cells slots ad lsA F ⟨x1, x2, x3, x4, x5, x6, x7', x8, x9⟩)
theorem Ev.if_ge {x : Int32} {off : Int} (tgt : Nat) (ht : (pc : Int) + off = (tgt : Int)) (hd : decode y.2.1 pc = .ok (.ifCond .ge off, 3)) (kt : 0 ≤ x → Ev l G d y tgt ls st M bc bs Φ) (kf : ¬ 0 ≤ x → Ev l G d y (pc + 3) ls st M bc bs Φ) : Ev l G d y pc ls (.int x :: st) M bc bs Φ := by
  intro p e s m args below meth c mc ms ad0 n0 H locs cells slots ad lsA F X
  obtain ⟨x1, x2, x3, x4, x5, x6, x7, x8, x9⟩ := id X
  have x7' := bd_t x7
  exact lv_if_ge F.1 F.2.1 hd ht (fun h => kt h p e s m args below meth c mc ms ad0 n0 H locs cells slots ad lsA F ⟨x1, x2, x3, x4, x5, x6, x7', x8, x9⟩) (fun h => kf h p e s m args below meth c mc ms ad0 n0 H locs cells slots ad lsA F ⟨x1, x2, x3, x4, x5, x6, x7', x8, x9⟩)
theorem Ev.icmp_ge {x z : Int32} {off : Int} (tgt : Nat) (ht : (pc : Int) + off = (tgt : Int)) (hd : decode y.2.1 pc = .ok (.if_icmp .ge off, 3)) (kt : z ≤ x → Ev l G d y tgt ls st M bc bs Φ) (kf : ¬ z ≤ x → Ev l G d y (pc + 3) ls st M bc bs Φ) : Ev l G d y pc ls (.int z :: .int x :: st) M bc bs Φ := by
  intro p e s m args below meth c mc ms ad0 n0 H locs cells slots ad lsA F X
  obtain ⟨x1, x2, x3, x4, x5, x6, x7, x8, x9⟩ := id X
  have x7' := bd_t (bd_t x7)
  exact lv_icmp_ge F.1 F.2.1 hd ht (fun h => kt h p e s m args below meth c mc ms ad0 n0 H locs cells slots ad lsA F ⟨x1, x2, x3, x4, x5, x6, x7', x8, x9⟩) (fun h => kf h p e s m args below meth c mc ms ad0 n0 H locs cells slots ad lsA F ⟨x1, x2, x3, x4, x5, x6, x7', x8, x9⟩)
theorem Ev.if_gt {x : Int32} {off : Int} (tgt : Nat) (ht : (pc : Int) + off = (tgt : Int)) (hd : decode y.2.1 pc = .ok (.ifCond .gt off, 3)) (kt : 0 < x → Ev l G d y tgt ls st M bc bs Φ) (kf : ¬ 0 < x → Ev l G d y (pc + 3) ls st M bc bs Φ) : Ev l G d y pc ls (.int x :: st) M bc bs Φ := by
  intro p e s m args below meth c mc ms ad0 n0 H locs cells slots ad lsA F X
  obtain ⟨x1, x2, x3, x4, x5, x6, x7, x8, x9⟩ := id X
  have x7' := bd_t x7
  exact lv_if_gt F.1 F.2.1 hd ht (fun h => kt h p e s m args below meth c mc ms ad0 n0 H locs cells slots ad lsA F ⟨x1, x2, x3, x4, x5, x6, x7', x8, x9⟩) (fun h => kf h p e s m args below meth c mc ms ad0 n0 H locs cells slots ad lsA F ⟨x1, x2, x3, x4, x5, x6, x7', x8, x9⟩)
theorem Ev.icmp_gt {x z : Int32} {off : Int} (tgt : Nat) (ht : (pc : Int) + off = (tgt : Int)) (hd : decode y.2.1 pc = .ok (.if_icmp .gt off, 3)) (kt : z < x → Ev l G d y tgt ls st M bc bs Φ) (kf : ¬ z < x → Ev l G d y (pc + 3) ls st M bc bs Φ) : Ev l G d y pc ls (.int z :: .int x :: st) M bc bs Φ := by
  intro p e s m args below meth c mc ms ad0 n0 H locs cells slots ad lsA F X
  obtain ⟨x1, x2, x3, x4, x5, x6, x7, x8, x9⟩ := id X
  have x7' := bd_t (bd_t x7)
  exact lv_icmp_gt F.1 F.2.1 hd ht (fun h => kt h p e s m args below meth c mc ms ad0 n0 H locs cells slots ad lsA F ⟨x1, x2, x3, x4, x5, x6, x7', x8, x9⟩) (fun h => kf h p e s m args below meth c mc ms ad0 n0 H locs cells slots ad lsA F ⟨x1, x2, x3, x4, x5, x6, x7', x8, x9⟩)
theorem Ev.if_le {x : Int32} {off : Int} (tgt : Nat) (ht : (pc : Int) + off = (tgt : Int)) (hd : decode y.2.1 pc = .ok (.ifCond .le off, 3)) (kt : x ≤ 0 → Ev l G d y tgt ls st M bc bs Φ) (kf : ¬ x ≤ 0 → Ev l G d y (pc + 3) ls st M bc bs Φ) : Ev l G d y pc ls (.int x :: st) M bc bs Φ := by
  intro p e s m args below meth c mc ms ad0 n0 H locs cells slots ad lsA F X
  obtain ⟨x1, x2, x3, x4, x5, x6, x7, x8, x9⟩ := id X
  have x7' := bd_t x7
  exact lv_if_le F.1 F.2.1 hd ht (fun h => kt h p e s m args below meth c mc ms ad0 n0 H locs cells slots ad lsA F ⟨x1, x2, x3, x4, x5, x6, x7', x8, x9⟩) (fun h => kf h p e s m args below meth c mc ms ad0 n0 H locs cells slots ad lsA F ⟨x1, x2, x3, x4, x5, x6, x7', x8, x9⟩)
theorem Ev.icmp_le {x z : Int32} {off : Int} (tgt : Nat) (ht : (pc : Int) + off = (tgt : Int)) (hd : decode y.2.1 pc = .ok (.if_icmp .le off, 3)) (kt : x ≤ z → Ev l G d y tgt ls st M bc bs Φ) (kf : ¬ x ≤ z → Ev l G d y (pc + 3) ls st M bc bs Φ) : Ev l G d y pc ls (.int z :: .int x :: st) M bc bs Φ := by
  intro p e s m args below meth c mc ms ad0 n0 H locs cells slots ad lsA F X
  obtain ⟨x1, x2, x3, x4, x5, x6, x7, x8, x9⟩ := id X
  have x7' := bd_t (bd_t x7)
  exact lv_icmp_le F.1 F.2.1 hd ht (fun h => kt h p e s m args below meth c mc ms ad0 n0 H locs cells slots ad lsA F ⟨x1, x2, x3, x4, x5, x6, x7', x8, x9⟩) (fun h => kf h p e s m args below meth c mc ms ad0 n0 H locs cells slots ad lsA F ⟨x1, x2, x3, x4, x5, x6, x7', x8, x9⟩)
theorem Ev.table {dflt lo hi : Int} {offs : Array Int} {len : Nat} {x : Int32} (hd : decode y.2.1 pc = .ok (.tableswitch dflt lo hi offs, len))
    (kin : ∀ (off : Int) (tgt : Nat), ¬ x.toInt < lo → ¬ hi < x.toInt → offs[(x.toInt - lo).toNat]? = some off → (pc : Int) + off = (tgt : Int) → Ev l G d y tgt ls st M bc bs Φ)
    (hin : ∀ off, ¬ x.toInt < lo → ¬ hi < x.toInt → ∃ (tgt : Nat), offs[(x.toInt - lo).toNat]? = some off → (pc : Int) + off = (tgt : Int)) (hex : ¬ x.toInt < lo → ¬ hi < x.toInt → ∃ off, offs[(x.toInt - lo).toNat]? = some off)
    (tgt : Nat) (ht : (pc : Int) + dflt = (tgt : Int)) (kout : (x.toInt < lo ∨ hi < x.toInt) → Ev l G d y tgt ls st M bc bs Φ) : Ev l G d y pc ls (.int x :: st) M bc bs Φ := by
  intro p e s m args below meth c mc ms ad0 n0 H locs cells slots ad lsA F X
  obtain ⟨x1, x2, x3, x4, x5, x6, x7, x8, x9⟩ := id X
  have x7' := bd_t x7
  by_cases h : x.toInt < lo ∨ hi < x.toInt
  · exact lv_tableOut F.1 F.2.1 hd h ht (kout h p e s m args below meth c mc ms ad0 n0 H locs cells slots ad lsA F ⟨x1, x2, x3, x4, x5, x6, x7', x8, x9⟩)
  · have h1 : ¬ x.toInt < lo := fun q => h (Or.inl q)
    have h2 : ¬ hi < x.toInt := fun q => h (Or.inr q)
    obtain ⟨off, ho⟩ := hex h1 h2
    obtain ⟨t2, ht2⟩ := hin off h1 h2
    exact lv_tableIn F.1 F.2.1 hd h1 h2 ho (ht2 ho) (kin off t2 h1 h2 ho (ht2 ho) p e s m args below meth c mc ms ad0 n0 H locs cells slots ad lsA F ⟨x1, x2, x3, x4, x5, x6, x7', x8, x9⟩)
/-- a switch whose case is known -/
theorem Ev.tblAt {dflt lo hi : Int} {offs : Array Int} {len : Nat} {x : Int32} {off : Int} (tgt : Nat) (hd : decode y.2.1 pc = .ok (.tableswitch dflt lo hi offs, len)) (h1 : ¬ x.toInt < lo) (h2 : ¬ hi < x.toInt) (ho : offs[(x.toInt - lo).toNat]? = some off) (ht : (pc : Int) + off = (tgt : Int)) (k : Ev l G d y tgt ls st M bc bs Φ) : Ev l G d y pc ls (.int x :: st) M bc bs Φ :=
  Ev.st1 (fun n hls h => bd_t h) (fun p e R s m args below meth c H locs cells slots Q ad lsA F L X S k => lv_tableIn F.1 F.2.1 hd h1 h2 ho ht k) k
theorem Ev.tblOut {dflt lo hi : Int} {offs : Array Int} {len : Nat} {x : Int32} (tgt : Nat) (hd : decode y.2.1 pc = .ok (.tableswitch dflt lo hi offs, len)) (h : x.toInt < lo ∨ hi < x.toInt) (ht : (pc : Int) + dflt = (tgt : Int)) (k : Ev l G d y tgt ls st M bc bs Φ) : Ev l G d y pc ls (.int x :: st) M bc bs Φ :=
  Ev.st1 (fun n hls h => bd_t h) (fun p e R s m args below meth c H locs cells slots Q ad lsA F L X S k => lv_tableOut F.1 F.2.1 hd h ht k) k
theorem Ev.lookup {dflt : Int} {ps : Array (Int × Int)} {len : Nat} {x : Int32} {off : Int} (tgt : Nat) (hd : decode y.2.1 pc = .ok (.lookupswitch dflt ps, len)) (hp : (ps.toList.zip (ps.toList.drop 1)).all (fun (a, next) => a.1 < next.1) = true) (ho : Op.lookupswitch.offset ps.toList dflt x.toInt = off) (ht : (pc : Int) + off = (tgt : Int)) (k : Ev l G d y tgt ls st M bc bs Φ) : Ev l G d y pc ls (.int x :: st) M bc bs Φ :=
  Ev.st1 (fun n hls h => bd_t h) (fun p e R s m args below meth c H locs cells slots Q ad lsA F L X S k => lv_lookup F.1 F.2.1 hd hp ho ht k) k
/-- a store into a local -/
theorem Ev.ls1 {pc2 i : Nat} {v : Value} (hi : i < y.2.2.1)
    (h : ∀ (p : Program) (e : Env) (R : Room) (s : State) (m : MethodId) (args : Array Value) (below : List Frame) (meth : Method) (c : Code) (H : Heap) (locs : List Loc) (cells slots : Nat) (Q : State → Prop) (ad : Nat → Nat) (lsA : Array Slot), FrOK G y p s m args meth c → Lv ad ls y.2.2.1 lsA →
      (∀ lsB : Array Slot, lv_has lsB y.2.2.1 ((i, tr ad v) :: (prs ad ls).filter (fun q => !(q.1 == i) && !(q.1 + 1 == i && q.2.category == 2))) → W p l e R s m args below meth c H locs cells slots Q (F0 m pc2 lsB (st.map (tr ad)))) → W p l e R s m args below meth c H locs cells slots Q (F0 m pc lsA ((v :: st).map (tr ad))))
    (k : Ev l G d y pc2 (sto ls i v) st M bc bs Φ) : Ev l G d y pc ls (v :: st) M bc bs Φ := by
  intro p e s m args below meth c mc ms ad0 n0 H locs cells slots ad lsA F X
  obtain ⟨x1, x2, x3, x4, x5, x6, x7, x8, x9⟩ := id X
  refine h p e _ s m args below meth c H locs cells slots _ ad lsA F x5 fun lsB hB => ?_
  exact k p e s m args below meth c mc ms ad0 n0 H locs cells slots ad lsB F ⟨x1, x2, x3, x4, Lv.sto1 hB, bd_sto x6 (bd_v x7), bd_t x7, x8, x9⟩
theorem Ev.istore_n {j : Fin 4} {x : Int32} (hd : decode y.2.1 pc = .ok (.istore_n j, 1)) (hi : (j : Nat) < y.2.2.1) (k : Ev l G d y (pc + 1) (sto ls j (.int x)) st M bc bs Φ) : Ev l G d y pc ls (.int x :: st) M bc bs Φ :=
  Ev.ls1 hi (fun p e R s m args below meth c H locs cells slots Q ad lsA F L k => lv_istore_n F.1 F.2.1 hd rfl L.has hi rfl k) k
theorem Ev.istore {i : Nat} {x : Int32} (hd : decode y.2.1 pc = .ok (.istore i, 2)) (hi : i < y.2.2.1) (k : Ev l G d y (pc + 2) (sto ls i (.int x)) st M bc bs Φ) : Ev l G d y pc ls (.int x :: st) M bc bs Φ :=
  Ev.ls1 hi (fun p e R s m args below meth c H locs cells slots Q ad lsA F L k => lv_istore F.1 F.2.1 hd L.has hi rfl k) k
theorem Ev.astore_n {j : Fin 4} {x : Nat} (hd : decode y.2.1 pc = .ok (.astore_n j, 1)) (hi : (j : Nat) < y.2.2.1) (k : Ev l G d y (pc + 1) (sto ls j (.ref x)) st M bc bs Φ) : Ev l G d y pc ls (.ref x :: st) M bc bs Φ :=
  Ev.ls1 hi (fun p e R s m args below meth c H locs cells slots Q ad lsA F L k => (match x, k with | 0, k => lv_astore_nN F.1 F.2.1 hd rfl L.has hi rfl k | x + 1, k => lv_astore_n F.1 F.2.1 hd rfl L.has hi rfl k)) k
theorem Ev.astore {i : Nat} {x : Nat} (hd : decode y.2.1 pc = .ok (.astore i, 2)) (hi : i < y.2.2.1) (k : Ev l G d y (pc + 2) (sto ls i (.ref x)) st M bc bs Φ) : Ev l G d y pc ls (.ref x :: st) M bc bs Φ :=
  Ev.ls1 hi (fun p e R s m args below meth c H locs cells slots Q ad lsA F L k => (match x, k with | 0, k => lv_astoreN F.1 F.2.1 hd L.has hi rfl k | x + 1, k => lv_astore F.1 F.2.1 hd L.has hi rfl k)) k
theorem Ev.iinc {i : Nat} {n : Int} {x v : Int32} (hd : decode y.2.1 pc = .ok (.iinc i n, 3)) (hi : i < y.2.2.1) (hl : ls[i]? = some (.int x)) (hv : x + Int32.ofInt n = v) (k : Ev l G d y (pc + 3) (sto ls i (.int v)) st M bc bs Φ) : Ev l G d y pc ls st M bc bs Φ := by
  intro p e s m args below meth c mc ms ad0 n0 H locs cells slots ad lsA F X
  obtain ⟨x1, x2, x3, x4, x5, x6, x7, x8, x9⟩ := id X
  obtain ⟨q, hq⟩ := List.getElem?_of_mem (prs_mem (ad := ad) hl (fun h => by cases h))
  refine lv_iinc F.1 F.2.1 hd x5.has hq hv hi rfl fun lsB hB => ?_
  exact k p e s m args below meth c mc ms ad0 n0 H locs cells slots ad lsB F ⟨x1, x2, x3, x4, Lv.sto1 hB, bd_sto x6 (bd_i (fun a h => by cases h)), x7, x8, x9⟩
end R1
end
section
theorem in_C : ∀ ci, ci < 12 → ∀ r : vw_C, vwCl[ci]? = some r → ∀ w ∈ u_ws r.1 r.2.1 r.2.2, w ∈ lwg := by
  have h : ∀ r ∈ vwCl, (u_ws r.1 r.2.1 r.2.2).all (fun w => lwg.contains w) = true := by decide +kernel
  intro ci hc r hr w hw
  have h1 := List.all_eq_true.mp (h r (List.mem_of_getElem? hr)) w hw
  exact List.contains_iff_mem.mp h1
theorem ty_C : ∀ ci, ci < 12 → ∀ r : vw_C, vwCl[ci]? = some r → ∀ k, k < r.2.2 → parseFieldDescriptor (r.2.1 k).2.2.1 = some (tyC ci k) := by
  intro ci hc r hr
  match ci, hr with
  | 0, hr => cases hr; exact tyX0_ok
  | 1, hr => cases hr; exact tyX1_ok
  | 2, hr => cases hr; exact tyX2_ok
  | 3, hr => cases hr; exact tyX3_ok
  | 4, hr => cases hr; exact tyX4_ok
  | 5, hr => cases hr; exact tyX5_ok
  | 6, hr => cases hr; exact tyX6_ok
  | 7, hr => cases hr; exact tyX7_ok
  | 8, hr => cases hr; exact tyX8_ok
  | 9, hr => cases hr; exact tyX9_ok
  | 10, hr => cases hr; exact tyX11_ok
  | 11, hr => cases hr; exact tyX12_ok
theorem nm_C : ∀ ci, ci < 12 → ∀ r : vw_C, vwCl[ci]? = some r → ∀ a, a < r.2.2 → ∀ b, b < r.2.2 → a ≠ b → (r.2.1 a).2.1 ≠ (r.2.1 b).2.1 := by
  intro ci hc r hr
  match ci, hr with
  | 0, hr => cases hr; exact nmX0
  | 1, hr => cases hr; exact nmX1
  | 2, hr => cases hr; exact nmX2
  | 3, hr => cases hr; exact nmX3
  | 4, hr => cases hr; exact nmX4
  | 5, hr => cases hr; exact nmX5
  | 6, hr => cases hr; exact nmX6
  | 7, hr => cases hr; exact nmX7
  | 8, hr => cases hr; exact nmX8
  | 9, hr => cases hr; exact nmX9
  | 10, hr => cases hr; exact nmX11
  | 11, hr => cases hr; exact nmX12
end
section
/-! ===== rules: fields, arrays, new cells ===== -/
theorem m_own {G : Gx} {M : Mm} {ad : Nat → Nat} {H : Heap} (h : RelE G M ad H) {a : Nat} (hs : (m_sh M a).1 ≠ 99) : 100 ≤ a ∧ a < m_nx M := by
  by_cases q : 100 ≤ a ∧ a < m_nx M
  · exact q
  · exact absurd (h.2.2.2.2.2.2.2 a q) hs
theorem m_ws_at (cA : Nat → ClassId) (ad : Nat → Nat) (M : Mm) {a : Nat} (h : 100 ≤ a ∧ a < m_nx M) : (m_ws cA ad M)[a - 100]? = some (ad a, m_cell cA ad M a) := by
  unfold m_ws
  rw [List.getElem?_map, List.getElem?_range (by omega)]
  show some (ad (100 + (a - 100)), m_cell cA ad M (100 + (a - 100))) = _
  rw [show 100 + (a - 100) = a by omega]
theorem m_ws_set (cA : Nat → ClassId) (ad : Nat → Nat) (M M' : Mm) {a : Nat} (h : 100 ≤ a ∧ a < m_nx M) (hn : m_nx M' = m_nx M) (hc : ∀ b, b ≠ a → m_cell cA ad M' b = m_cell cA ad M b) {e : va_E} (he : m_cell cA ad M' a = e) : (m_ws cA ad M).set (a - 100) (ad a, e) = m_ws cA ad M' := by
  apply List.ext_getElem?
  intro i
  by_cases hi : i = a - 100
  · subst hi
    rw [List.getElem?_set_self (by unfold m_ws; rw [List.length_map, List.length_range]; omega), m_ws_at cA ad M' (by rw [hn]; exact h), he]
  · rw [List.getElem?_set_ne (Ne.symm hi)]
    unfold m_ws
    rw [hn, List.getElem?_map, List.getElem?_map]
    by_cases hl : i < m_nx M - 100
    · rw [List.getElem?_range hl]
      show some (ad (100 + i), m_cell cA ad M (100 + i)) = some (ad (100 + i), m_cell cA ad M' (100 + i))
      rw [hc (100 + i) (by omega)]
    · rw [List.getElem?_eq_none (by rw [List.length_range]; omega)]
      rfl
theorem m_cell_O (cA : Nat → ClassId) (ad : Nat → Nat) (M : Mm) {a ci : Nat} (hs : (m_sh M a).1 = ci) (hc : ci < 12) : m_cell cA ad M a = .inr (ci, (List.range (nFd ci)).map (m_fv ad M a ci)) := by
  unfold m_cell
  rw [hs, if_pos hc]
theorem m_cell_I (cA : Nat → ClassId) (ad : Nat → Nat) (M : Mm) {a t n : Nat} (hs : m_sh M a = (t, n)) (h1 : ¬ t < 12) (h2 : t < 22) : m_cell cA ad M a = .inl (cA t, n, .inl (m_i M a)) := by
  unfold m_cell
  rw [hs]
  show (if t < 12 then _ else if t < 22 then _ else _) = _
  rw [if_neg h1, if_pos h2]
theorem m_cell_L (cA : Nat → ClassId) (ad : Nat → Nat) (M : Mm) {a n : Nat} (hs : m_sh M a = (22, n)) : m_cell cA ad M a = .inl (cA 22, n, .inr (.inl (m_l M a))) := by
  unfold m_cell
  rw [hs]
  rfl
theorem m_cell_R (cA : Nat → ClassId) (ad : Nat → Nat) (M : Mm) {a t n : Nat} (hs : m_sh M a = (t, n)) (h1 : 22 < t) : m_cell cA ad M a = .inl (cA t, n, .inr (.inr (.inr (.inr (fun j => rf_ ad (m_r M a j)))))) := by
  unfold m_cell
  rw [hs]
  show (if t < 12 then _ else if t < 22 then _ else if t = 22 then _ else _) = _
  rw [if_neg (by omega), if_neg (by omega), if_neg (by omega)]
theorem m_cell_si (cA : Nat → ClassId) (ad : Nat → Nat) (M : Mm) (a k : Nat) (v : Int32) {b : Nat} (h : b ≠ a) : m_cell cA ad (m_si M a k v) b = m_cell cA ad M b := by
  have e1 : m_i (m_si M a k v) b = m_i M b := funext fun j => by rw [m_i_si, if_neg (fun q => h q.1)]
  have e2 : ∀ ci, m_fv ad (m_si M a k v) b ci = m_fv ad M b ci := fun ci => funext fun j => by
    unfold m_fv
    rw [e1, m_r_si]
  unfold m_cell
  rw [m_sh_si, e1, e2]
  rfl
theorem m_cell_sr (cA : Nat → ClassId) (ad : Nat → Nat) (M : Mm) (a k v : Nat) {b : Nat} (h : b ≠ a) : m_cell cA ad (m_sr M a k v) b = m_cell cA ad M b := by
  have e1 : m_r (m_sr M a k v) b = m_r M b := funext fun j => by rw [m_r_sr, if_neg (fun q => h q.1)]
  have e2 : ∀ ci, m_fv ad (m_sr M a k v) b ci = m_fv ad M b ci := fun ci => funext fun j => by
    unfold m_fv
    rw [e1, m_i_sr]
  unfold m_cell
  rw [m_sh_sr, e1, e2]
  rfl
theorem m_cell_sl (cA : Nat → ClassId) (ad : Nat → Nat) (M : Mm) (a k : Nat) (v : Int64) {b : Nat} (h : b ≠ a) : m_cell cA ad (m_sl M a k v) b = m_cell cA ad M b := by
  have e1 : m_l (m_sl M a k v) b = m_l M b := funext fun j => by rw [m_l_sl, if_neg (fun q => h q.1)]
  unfold m_cell
  rw [m_sh_sl, e1]
  rfl
theorem m_fs_set (ad : Nat → Nat) (M M' : Mm) (a ci k N : Nat) (w : Value) (hk : m_fv ad M' a ci k = w) (h : ∀ j, j ≠ k → m_fv ad M' a ci j = m_fv ad M a ci j) : ((List.range N).map (m_fv ad M a ci)).set k w = (List.range N).map (m_fv ad M' a ci) := by
  apply List.ext_getElem?
  intro i
  by_cases hi : i = k
  · subst hi
    by_cases hl : i < N
    · rw [List.getElem?_set_self (by rw [List.length_map, List.length_range]; exact hl), List.getElem?_map, List.getElem?_range hl, ← hk]
      rfl
    · rw [List.getElem?_eq_none (by rw [List.length_set, List.length_map, List.length_range]; omega), List.getElem?_eq_none (by rw [List.length_map, List.length_range]; omega)]
  · rw [List.getElem?_set_ne (Ne.symm hi), List.getElem?_map, List.getElem?_map]
    by_cases hl : i < N
    · rw [List.getElem?_range hl]
      show some (m_fv ad M a ci i) = some (m_fv ad M' a ci i)
      rw [h i hi]
    · rw [List.getElem?_eq_none (by rw [List.length_range]; omega)]
      rfl
/-- a field of a class of vwCl, as a class's pool names it -/
def FOK (own : String) (idx ci k : Nat) (fin : Bool) : Prop := ∃ (C : String) (T : u_T) (N : Nat), vwCl[ci]? = some (C, T, N) ∧ ci < 12 ∧ N = nFd ci ∧ k < N ∧ (T k).2.2.2 = fin ∧ Cond.fieldLink own idx (T k).1 (T k).2.1 (T k).2.2.1 ∈ lwg
def FON (own : String) (idx ci k : Nat) (fin : Bool) : Prop := ∃ (C : String) (T : u_T) (N : Nat) (host : String), vwCl[ci]? = some (C, T, N) ∧ ci < 12 ∧ N = nFd ci ∧ k < N ∧ (T k).2.2.2 = fin ∧ Cond.fieldLinkNest own idx (T k).1 (T k).2.1 (T k).2.2.1 host ∈ lwx
theorem m_fs_at (ad : Nat → Nat) (M : Mm) (a ci k N : Nat) (h : k < N) : ((List.range N).map (m_fv ad M a ci))[k]? = some (m_fv ad M a ci k) := by
  rw [List.getElem?_map, List.getElem?_range h]
  rfl
section R2
variable {l : Launch} {G : Gx} {d : Nat} {y : MR} {pc : Nat} {ls st : List Value} {M : Mm} {bc bs : Nat} {Φ : OutV → Mm → Prop}
theorem Ev.getV {idx ci k a : Nat} {fin : Bool} {v : Value} (hd : decode y.2.1 pc = .ok (.getfield idx, 3)) (hf : FOK y.1.cls idx ci k fin ∨ FON y.1.cls idx ci k fin) (hs : (m_sh M a).1 = ci) (hv : ∀ ad, m_fv ad M a ci k = tr ad v) (hb : (∀ a k, m_r M a k < m_nx M) → bdL (m_nx M) [v]) (kk : Ev l G d y (pc + 3) ls (v :: st) M bc bs Φ) : Ev l G d y pc ls (.ref a :: st) M bc bs Φ := by
  intro p e s m args below meth c mc ms ad0 n0 H locs cells slots ad lsA F X
  obtain ⟨x1, x2, x3, x4, x5, x6, x7, x8, x9⟩ := id X
  have K := kk p e s m args below meth c mc ms ad0 n0 H locs cells slots ad lsA F ⟨x1, x2, x3, x4, x5, x6, (fun b hb' => (List.mem_cons.mp hb').elim (fun e => hb x3.2.2.2.1 b (by rw [e]; exact List.mem_cons_self)) (bd_t x7 b)), x8, x9⟩
  rcases hf with ⟨C, T, N, h1, h2, h3, h4, h5, h6⟩ | ⟨C, T, N, host, h1, h2, h3, h4, h5, h6⟩
  · subst h3
    obtain ⟨o1, o2⟩ := m_own x3 (a := a) (by rw [hs]; omega)
    obtain ⟨b, rfl⟩ : ∃ b, a = b + 1 := ⟨a - 1, by omega⟩
    have hw := m_ws_at G.2.1 ad M ⟨o1, o2⟩
    rw [m_cell_O G.2.1 ad M hs h2] at hw
    refine va_get (D := G.1) (cl := vwCl) F.1 F.2.1 (C := C) (T := T) (N := nFd ci) F.2.2.2.2.2.1 (in_C ci h2 _ h1) F.2.2.2.2.1 F.2.2.2.2.2.2.2.2.1.1 x3.1 (b + 1 - 100) hw h1 k h4 (F.2.2.2.2.2.1 _ h6) (fun _ h => h) (v := tr ad v) ?_ hd K
    rw [m_fs_at _ _ _ _ _ _ h4, hv]
  · subst h3
    obtain ⟨o1, o2⟩ := m_own x3 (a := a) (by rw [hs]; omega)
    obtain ⟨b, rfl⟩ : ∃ b, a = b + 1 := ⟨a - 1, by omega⟩
    have hw := m_ws_at G.2.1 ad M ⟨o1, o2⟩
    rw [m_cell_O G.2.1 ad M hs h2] at hw
    refine va_getN (D := G.1) (cl := vwCl) F.1 F.2.1 (C := C) (T := T) (N := nFd ci) F.2.2.2.2.2.1 (in_C ci h2 _ h1) F.2.2.2.2.1 F.2.2.2.2.2.2.2.2.1.1 x3.1 (b + 1 - 100) hw h1 k h4 (va_Nw.use rfl (F.2.2.2.2.2.2.2.2.1.2.2.2.2.2.2.2.2.2 _ h6)) (fun _ h => h) (v := tr ad v) ?_ hd K
    rw [m_fs_at _ _ _ _ _ _ h4, hv]
theorem Ev.getI {idx ci k a : Nat} {fin : Bool} (hd : decode y.2.1 pc = .ok (.getfield idx, 3)) (hf : FOK y.1.cls idx ci k fin ∨ FON y.1.cls idx ci k fin) (hi : isI (tyC ci k) = true) (hs : (m_sh M a).1 = ci) (kk : Ev l G d y (pc + 3) ls (.int (m_i M a k) :: st) M bc bs Φ) : Ev l G d y pc ls (.ref a :: st) M bc bs Φ :=
  Ev.getV hd hf hs (fun ad => by unfold m_fv; rw [if_pos hi]; rfl) (fun _ => bd_i (fun a h => by cases h)) kk
theorem Ev.getR {idx ci k a : Nat} {fin : Bool} (hd : decode y.2.1 pc = .ok (.getfield idx, 3)) (hf : FOK y.1.cls idx ci k fin ∨ FON y.1.cls idx ci k fin) (hi : isI (tyC ci k) = false) (hs : (m_sh M a).1 = ci) (kk : Ev l G d y (pc + 3) ls (.ref (m_r M a k) :: st) M bc bs Φ) : Ev l G d y pc ls (.ref a :: st) M bc bs Φ :=
  Ev.getV hd hf hs (fun ad => by unfold m_fv; rw [hi]; rfl) (fun h => bd_r (h a k) (fun a h => by cases h)) kk
/-- a store into a field: the memory M' differs from M at that field alone -/
theorem Ev.putV {idx ci k a : Nat} {fin : Bool} {v : Value} {M' : Mm} (hd : decode y.2.1 pc = .ok (.putfield idx, 3)) (hf : (FOK y.1.cls idx ci k fin ∧ (fin = true → y.1.name = "<init>" ∧ ∀ r : vw_C, vwCl[ci]? = some r → (r.2.1 k).1 = y.1.cls)) ∨ (FON y.1.cls idx ci k fin ∧ fin = false)) (hs : (m_sh M a).1 = ci)
    (hfit : ∀ ad, narrow (tyC ci k) (tr ad v) = tr ad v ∧ fits (tyC ci k) (tr ad v) = true)
    (hn : m_nx M' = m_nx M) (hsh : ∀ b, m_sh M' b = m_sh M b) (hr : bdL (m_nx M) [v] → (∀ b j, m_r M b j < m_nx M) → ∀ b j, m_r M' b j < m_nx M')
    (hc : ∀ (cA : Nat → ClassId) (ad : Nat → Nat) (b : Nat), b ≠ a → m_cell cA ad M' b = m_cell cA ad M b) (hk : ∀ ad, m_fv ad M' a ci k = tr ad v) (hj : ∀ ad j, j ≠ k → m_fv ad M' a ci j = m_fv ad M a ci j)
    (kk : Ev l G d y (pc + 3) ls st M' bc bs Φ) : Ev l G d y pc ls (v :: .ref a :: st) M bc bs Φ := by
  intro p e s m args below meth c mc ms ad0 n0 H locs cells slots ad lsA F X
  obtain ⟨x1, x2, x3, x4, x5, x6, x7, x8, x9⟩ := id X
  have hci : ci < 12 := by
    rcases hf with ⟨⟨C, T, N, h1, h2, h3⟩, -⟩ | ⟨⟨C, T, N, host, h1, h2, h3⟩, -⟩ <;> exact h2
  obtain ⟨o1, o2⟩ := m_own x3 (a := a) (by rw [hs]; omega)
  have hw := m_ws_at G.2.1 ad M ⟨o1, o2⟩
  rw [m_cell_O G.2.1 ad M hs hci] at hw
  have hset : (m_ws G.2.1 ad M).set (a - 100) (ad a, .inr (ci, ((List.range (nFd ci)).map (m_fv ad M a ci)).set k (tr ad v))) = m_ws G.2.1 ad M' := by
    refine m_ws_set G.2.1 ad M M' ⟨o1, o2⟩ hn (hc G.2.1 ad) ?_
    rw [m_cell_O G.2.1 ad M' (by rw [hsh]; exact hs) hci, m_fs_set ad M M' a ci k (nFd ci) (tr ad v) (hk ad) (hj ad)]
  have K : ∀ (H1 : Heap) (locs1 : List Loc), va_P G.1 vwCl ((m_ws G.2.1 ad M).set (a - 100) (ad a, .inr (ci, ((List.range (nFd ci)).map (m_fv ad M a ci)).set k (tr ad v)))) H1 → va_D (fun q => G.2.2.1.size ≤ q) ((m_ws G.2.1 ad M).set (a - 100) (ad a, .inr (ci, ((List.range (nFd ci)).map (m_fv ad M a ci)).set k (tr ad v)))) → va_S (fun q => G.2.2.1.size ≤ q) s.heap H1 locs1 → W p l e (rmO d mc ms) s m args below meth c H1 locs1 cells slots (vx_MQ below (QcO G ad0 n0 Φ) (XcO G ad0 n0 Φ) args s mc ms (fun q => G.2.2.1.size ≤ q)) (F0 m (pc + 3) lsA (st.map (tr ad))) := by
    intro H1 locs1 p1 p2 p3
    rw [hset] at p1 p2
    refine kk p e s m args below meth c mc ms ad0 n0 H1 locs1 cells slots ad lsA F ⟨x1, x2, ⟨p1, p2, by rw [hn]; exact x3.2.2.1, hr (bd_v x7) x3.2.2.2.1, Nat.le_trans F.2.2.2.2.2.2.2.2.2.2.1 p3.1, fun q hq => ?_, x3.2.2.2.2.2.2.1, fun b hb => by rw [hsh]; exact x3.2.2.2.2.2.2.2 b (by rw [← hn]; exact hb)⟩, p3, x5, by rw [hn]; exact x6, by rw [hn]; exact bd_t (bd_t x7), x8, by rw [hn]; exact x9⟩
    rw [p3.2.1 q (Nat.lt_of_lt_of_le hq F.2.2.2.2.2.2.2.2.2.2.1) (Nat.not_le.mpr hq)]
    exact F.2.2.2.2.2.2.2.2.2.2.2 q hq
  obtain ⟨b, rfl⟩ : ∃ b, a = b + 1 := ⟨a - 1, by omega⟩
  rcases hf with ⟨⟨C, T, N, h1, h2, h3, h4, h5, h6⟩, h7⟩ | ⟨⟨C, T, N, host, h1, h2, h3, h4, h5, h6⟩, h7⟩
  · subst h3
    have hty := ty_C ci h2 _ h1
    have hl : k < ((List.range (nFd ci)).map (m_fv ad M (b + 1) ci)).length := by rw [List.length_map, List.length_range]; exact h4
    cases fin with
    | true =>
      obtain ⟨g1, g2⟩ := h7 rfl
      exact va_putF (D := G.1) (cl := vwCl) F.1 F.2.1 (C := C) (T := T) (N := nFd ci) F.2.2.2.2.2.1 (in_C ci h2 _ h1) (tyC ci) hty (nm_C ci h2 _ h1) F.2.2.2.2.1 F.2.2.2.2.2.2.2.2.1.1 x3.1 x3.2.1 x4 (b + 1 - 100) hw h1 k h4 (F.2.2.2.2.2.1 _ h6) (fun _ h => h) h5 (F.2.2.2.2.2.2.2.1.trans g1) (g2 _ h1) (hty k h4) (hfit ad).1 (hfit ad).2 hl hd K
    | false =>
      exact va_put (D := G.1) (cl := vwCl) F.1 F.2.1 (C := C) (T := T) (N := nFd ci) F.2.2.2.2.2.1 (in_C ci h2 _ h1) (tyC ci) hty (nm_C ci h2 _ h1) F.2.2.2.2.1 F.2.2.2.2.2.2.2.2.1.1 x3.1 x3.2.1 x4 (b + 1 - 100) hw h1 k h4 (F.2.2.2.2.2.1 _ h6) (fun _ h => h) h5 (hty k h4) (hfit ad).1 (hfit ad).2 hl hd K
  · subst h3
    subst h7
    have hty := ty_C ci h2 _ h1
    have hl : k < ((List.range (nFd ci)).map (m_fv ad M (b + 1) ci)).length := by rw [List.length_map, List.length_range]; exact h4
    exact va_putN (D := G.1) (cl := vwCl) F.1 F.2.1 (C := C) (T := T) (N := nFd ci) F.2.2.2.2.2.1 (in_C ci h2 _ h1) (tyC ci) hty (nm_C ci h2 _ h1) F.2.2.2.2.1 F.2.2.2.2.2.2.2.2.1.1 x3.1 x3.2.1 x4 (b + 1 - 100) hw h1 k h4 (va_Nw.use rfl (F.2.2.2.2.2.2.2.2.1.2.2.2.2.2.2.2.2.2 _ h6)) (fun _ h => h) h5 (hty k h4) (hfit ad).1 (hfit ad).2 hl hd K
/-- 'may be stored there' : a field's pool entry, and its finality -/
def POK (y : MR) (idx ci k : Nat) : Prop := ∃ fin, (FOK y.1.cls idx ci k fin ∧ (fin = true → y.1.name = "<init>" ∧ ∀ r : vw_C, vwCl[ci]? = some r → (r.2.1 k).1 = y.1.cls)) ∨ (FON y.1.cls idx ci k fin ∧ fin = false)
theorem Ev.putI {idx ci k a : Nat} {x : Int32} (hd : decode y.2.1 pc = .ok (.putfield idx, 3)) (hf : POK y idx ci k) (hi : isI (tyC ci k) = true) (hx : narrow (tyC ci k) (.int x) = .int x ∧ fits (tyC ci k) (.int x) = true) (hs : (m_sh M a).1 = ci) (kk : Ev l G d y (pc + 3) ls st (m_si M a k x) bc bs Φ) : Ev l G d y pc ls (.int x :: .ref a :: st) M bc bs Φ := by
  obtain ⟨fin, hf⟩ := hf
  refine Ev.putV (M' := m_si M a k x) hd hf hs (fun _ => hx) rfl (fun _ => rfl) (fun _ h b j => h b j) (fun cA ad b hb => m_cell_si cA ad M a k x hb) (fun ad => ?_) (fun ad j hj => ?_) kk
  · unfold m_fv
    rw [if_pos hi, m_i_si, if_pos ⟨rfl, rfl⟩]
    rfl
  · have e1 : m_i (m_si M a k x) a j = m_i M a j := by rw [m_i_si, if_neg (fun q => hj q.2)]
    unfold m_fv
    rw [e1, m_r_si]
theorem Ev.putR {idx ci k a v : Nat} (hd : decode y.2.1 pc = .ok (.putfield idx, 3)) (hf : POK y idx ci k) (hi : isI (tyC ci k) = false) (hx : ∀ ad, narrow (tyC ci k) (tr ad (.ref v)) = tr ad (.ref v) ∧ fits (tyC ci k) (tr ad (.ref v)) = true) (hs : (m_sh M a).1 = ci) (kk : Ev l G d y (pc + 3) ls st (m_sr M a k v) bc bs Φ) : Ev l G d y pc ls (.ref v :: .ref a :: st) M bc bs Φ := by
  obtain ⟨fin, hf⟩ := hf
  refine Ev.putV (M' := m_sr M a k v) hd hf hs hx rfl (fun _ => rfl) (fun hv h b j => ?_) (fun cA ad b hb => m_cell_sr cA ad M a k v hb) (fun ad => ?_) (fun ad j hj => ?_) kk
  · rw [m_r_sr]
    split
    · exact bd_h hv
    · exact h b j
  · have e1 : m_r (m_sr M a k v) a k = v := by rw [m_r_sr, if_pos ⟨rfl, rfl⟩]
    unfold m_fv
    rw [hi, e1]
    rfl
  · have e1 : m_r (m_sr M a k v) a j = m_r M a j := by rw [m_r_sr, if_neg (fun q => hj q.2)]
    unfold m_fv
    rw [e1, m_i_sr]
end R2
end
section
/-! ===== rules: arrays ===== -/
section R3
variable {l : Launch} {G : Gx} {d : Nat} {y : MR} {pc : Nat} {ls st : List Value} {M : Mm} {bc bs : Nat} {Φ : OutV → Mm → Prop}
theorem Ev.iald {a n : Nat} {i : Int32} (hd : decode y.2.1 pc = .ok (.iaload, 1)) (hs : m_sh M a = (20, n)) (hin : vp_in i n) (kk : Ev l G d y (pc + 1) ls (.int (m_i M a i.toNatClampNeg) :: st) M bc bs Φ) : Ev l G d y pc ls (.int i :: .ref a :: st) M bc bs Φ :=
  Ev.st1 (fun n hls h => bd_i (bd_t (bd_t h))) (fun p e R s m args below meth c H locs cells slots Q ad lsA F L X S k => by
    obtain ⟨o1, o2⟩ := m_own X (a := a) (by rw [hs]; simp)
    have hw := m_ws_at G.2.1 ad M ⟨o1, o2⟩
    rw [m_cell_I G.2.1 ad M hs (by decide) (by decide)] at hw
    obtain ⟨b, rfl⟩ : ∃ b, a = b + 1 := ⟨a - 1, by omega⟩
    exact va_iald (D := G.1) (cl := vwCl) F.1 F.2.1 F.2.2.2.2.2.2.2.2.1.1 X.1 (b + 1 - 100) 0 hw rfl hin hd k) kk
theorem Ev.bald {a n : Nat} {i : Int32} (hd : decode y.2.1 pc = .ok (.baload, 1)) (hs : m_sh M a = (21, n)) (hin : vp_in i n) (kk : Ev l G d y (pc + 1) ls (.int (m_i M a i.toNatClampNeg) :: st) M bc bs Φ) : Ev l G d y pc ls (.int i :: .ref a :: st) M bc bs Φ :=
  Ev.st1 (fun n hls h => bd_i (bd_t (bd_t h))) (fun p e R s m args below meth c H locs cells slots Q ad lsA F L X S k => by
    obtain ⟨o1, o2⟩ := m_own X (a := a) (by rw [hs]; simp)
    have hw := m_ws_at G.2.1 ad M ⟨o1, o2⟩
    rw [m_cell_I G.2.1 ad M hs (by decide) (by decide)] at hw
    obtain ⟨b, rfl⟩ : ∃ b, a = b + 1 := ⟨a - 1, by omega⟩
    exact va_bald (D := G.1) (cl := vwCl) F.1 F.2.1 F.2.2.2.2.2.2.2.2.1.1 X.1 (b + 1 - 100) 1 hw rfl hin hd k) kk
theorem Ev.lald {a n : Nat} {i : Int32} (hd : decode y.2.1 pc = .ok (.laload, 1)) (hs : m_sh M a = (22, n)) (hin : vp_in i n) (kk : Ev l G d y (pc + 1) ls (.long (m_l M a i.toNatClampNeg) :: st) M bc bs Φ) : Ev l G d y pc ls (.int i :: .ref a :: st) M bc bs Φ :=
  Ev.st1 (fun n hls h => bd_l (bd_t (bd_t h))) (fun p e R s m args below meth c H locs cells slots Q ad lsA F L X S k => by
    obtain ⟨o1, o2⟩ := m_own X (a := a) (by rw [hs]; simp)
    have hw := m_ws_at G.2.1 ad M ⟨o1, o2⟩
    rw [m_cell_L G.2.1 ad M hs] at hw
    obtain ⟨b, rfl⟩ : ∃ b, a = b + 1 := ⟨a - 1, by omega⟩
    exact va_lald (D := G.1) (cl := vwCl) F.1 F.2.1 F.2.2.2.2.2.2.2.2.1.1 X.1 (b + 1 - 100) 2 hw rfl hin hd k) kk
theorem Ev.alen {a t n : Nat} (hd : decode y.2.1 pc = .ok (.arraylength, 1)) (hs : m_sh M a = (t, n)) (ht : t = 20 ∨ t = 21) (kk : Ev l G d y (pc + 1) ls (.int (Int32.ofNat n) :: st) M bc bs Φ) : Ev l G d y pc ls (.ref a :: st) M bc bs Φ :=
  Ev.st1 (fun n hls h => bd_i (bd_t h)) (fun p e R s m args below meth c H locs cells slots Q ad lsA F L X S k => by
    obtain ⟨o1, o2⟩ := m_own X (a := a) (by rw [hs]; show t ≠ 99; omega)
    have hw := m_ws_at G.2.1 ad M ⟨o1, o2⟩
    rw [m_cell_I G.2.1 ad M hs (by omega) (by omega)] at hw
    obtain ⟨b, rfl⟩ : ∃ b, a = b + 1 := ⟨a - 1, by omega⟩
    rcases ht with rfl | rfl
    · exact va_alen (D := G.1) (cl := vwCl) F.1 F.2.1 F.2.2.2.2.2.2.2.2.1.1 X.1 (b + 1 - 100) 0 hw (ty := .int) rfl rfl hd k
    · exact va_alen (D := G.1) (cl := vwCl) F.1 F.2.1 F.2.2.2.2.2.2.2.2.1.1 X.1 (b + 1 - 100) 1 hw (ty := .byte) rfl rfl hd k) kk
theorem m_isArr {U : State} {cA : ClassId} {ty : FieldType} (h : ArrOfT U cA ty) (n : Nat) (f : Nat → Value) : U.isArrayOf (arrV cA n f) ty := by
  obtain ⟨h1, k, h2, comp, h3⟩ := h n f
  exact ⟨h1, k, h2, comp, h3⟩
theorem Ev.aald {a t n : Nat} {i : Int32} (hd : decode y.2.1 pc = .ok (.aaload, 1)) (hs : m_sh M a = (t, n)) (ht : t = 30 ∨ t = 31 ∨ t = 32 ∨ t = 33) (hin : vp_in i n) (kk : Ev l G d y (pc + 1) ls (.ref (m_r M a i.toNatClampNeg) :: st) M bc bs Φ) : Ev l G d y pc ls (.int i :: .ref a :: st) M bc bs Φ := by
  intro p e s m args below meth c mc ms ad0 n0 H locs cells slots ad lsA F X0
  obtain ⟨x1, x2, x3, x4, x5, x6, x7, x8, x9⟩ := id X0
  have K := kk p e s m args below meth c mc ms ad0 n0 H locs cells slots ad lsA F ⟨x1, x2, x3, x4, x5, x6, bd_r (x3.2.2.2.1 _ _) (bd_t (bd_t x7)), x8, x9⟩
  obtain ⟨o1, o2⟩ := m_own x3 (a := a) (by rw [hs]; show t ≠ 99; omega)
  have hw := m_ws_at G.2.1 ad M ⟨o1, o2⟩
  rw [m_cell_R G.2.1 ad M hs (by omega)] at hw
  obtain ⟨b, rfl⟩ : ∃ b, a = b + 1 := ⟨a - 1, by omega⟩
  rw [List.map_cons, tr_rf] at K
  rcases ht with rfl | rfl | rfl | rfl
  · exact va_aldq (D := G.1) (cl := vwCl) F.1 F.2.1 F.2.2.2.2.2.2.2.2.1.1 x3.1 (b + 1 - 100) 3 hw rfl hin hd K
  · exact va_aldq (D := G.1) (cl := vwCl) F.1 F.2.1 F.2.2.2.2.2.2.2.2.1.1 x3.1 (b + 1 - 100) 4 hw rfl hin hd K
  · exact va_aldq (D := G.1) (cl := vwCl) F.1 F.2.1 F.2.2.2.2.2.2.2.2.1.1 x3.1 (b + 1 - 100) 5 hw rfl hin hd K
  · have hc : H[ad (b + 1)]? = some (arrV (G.2.1 33) n (fun j => va_rf (rf_ ad (m_r M (b + 1) j)))) := x3.1 _ _ hw
    have hA := (F.2.2.2.2.2.2.2.2.1.1.2 6 (G.2.1 33, .array .int) rfl).1
    refine W.aald F.1 F.2.1 hc (m_isArr hA _ _) rfl (fun h => by cases h) (by rw [show (arrV (G.2.1 33) n (fun j => va_rf (rf_ ad (m_r M (b + 1) j)))).slots.size = n from Array.size_ofFn]; exact hin) (v := va_rf (rf_ ad (m_r M (b + 1) i.toNatClampNeg))) ?_ rfl rfl hd K
    have hlt : i.toNatClampNeg < n := Nat.lt_of_not_le fun q => hin (Or.inr q)
    show (Array.ofFn (n := n) fun j => va_rf (rf_ ad (m_r M (b + 1) j.val)))[i.toNatClampNeg]? = _
    rw [Array.getElem?_ofFn, dif_pos hlt]
/-- what a store into one cell of the world leaves: M' is M but for the cell a -/
theorem m_stored {M' : Mm} {a : Nat} {ad : Nat → Nat} {s : State} {H H1 : Heap} {locs1 : List Loc} {e1 : va_E} (x3 : RelE G M ad H) (o : 100 ≤ a ∧ a < m_nx M) (hn : m_nx M' = m_nx M) (hsh : ∀ b, m_sh M' b = m_sh M b) (hr : ∀ b j, m_r M' b j < m_nx M') (hc : ∀ (b : Nat), b ≠ a → m_cell G.2.1 ad M' b = m_cell G.2.1 ad M b) (he : m_cell G.2.1 ad M' a = e1)
    (hF : G.2.2.1.size ≤ s.heap.size ∧ ∀ q : Nat, q < G.2.2.1.size → s.heap[q]? = G.2.2.1[q]?) (p1 : va_P G.1 vwCl ((m_ws G.2.1 ad M).set (a - 100) (ad a, e1)) H1) (p2 : va_D (fun q => G.2.2.1.size ≤ q) ((m_ws G.2.1 ad M).set (a - 100) (ad a, e1))) (p3 : va_S (fun q => G.2.2.1.size ≤ q) s.heap H1 locs1) : RelE G M' ad H1 := by
  rw [m_ws_set G.2.1 ad M M' o hn hc he] at p1 p2
  refine ⟨p1, p2, by rw [hn]; exact x3.2.2.1, hr, Nat.le_trans hF.1 p3.1, fun q hq => ?_, x3.2.2.2.2.2.2.1, fun b hb => by rw [hsh]; exact x3.2.2.2.2.2.2.2 b (by rw [← hn]; exact hb)⟩
  rw [p3.2.1 q (Nat.lt_of_lt_of_le hq hF.1) (Nat.not_le.mpr hq)]
  exact hF.2 q hq
theorem m_i_upd (M : Mm) (a k : Nat) (x : Int32) : m_i (m_si M a k x) a = upd (m_i M a) k x := funext fun j => by
  rw [m_i_si]
  by_cases h : j = k
  · subst h; rw [if_pos ⟨rfl, rfl⟩, pk_us]
  · rw [if_neg (fun q => h q.2), pk_un h]
theorem m_l_upd (M : Mm) (a k : Nat) (x : Int64) : m_l (m_sl M a k x) a = vp_updL (m_l M a) k x := funext fun j => by
  rw [m_l_sl]
  by_cases h : j = k
  · subst h; rw [if_pos ⟨rfl, rfl⟩, pk_uLs]
  · rw [if_neg (fun q => h q.2), pk_uLn h]
theorem Ev.iast {a n : Nat} {i x : Int32} (hd : decode y.2.1 pc = .ok (.iastore, 1)) (hs : m_sh M a = (20, n)) (hin : vp_in i n) (kk : Ev l G d y (pc + 1) ls st (m_si M a i.toNatClampNeg x) bc bs Φ) : Ev l G d y pc ls (.int x :: .int i :: .ref a :: st) M bc bs Φ := by
  intro p e s m args below meth c mc ms ad0 n0 H locs cells slots ad lsA F X0
  obtain ⟨x1, x2, x3, x4, x5, x6, x7, x8, x9⟩ := id X0
  obtain ⟨o1, o2⟩ := m_own x3 (a := a) (by rw [hs]; simp)
  have hw := m_ws_at G.2.1 ad M ⟨o1, o2⟩
  rw [m_cell_I G.2.1 ad M hs (by decide) (by decide)] at hw
  obtain ⟨b, rfl⟩ : ∃ b, a = b + 1 := ⟨a - 1, by omega⟩
  refine va_iast (D := G.1) (cl := vwCl) F.1 F.2.1 F.2.2.2.2.2.2.2.2.1.1 x3.1 x3.2.1 x4 (b + 1 - 100) 0 hw rfl hin hd fun H1 locs1 p1 p2 p3 => ?_
  have hR : RelE G (m_si M (b + 1) i.toNatClampNeg x) ad H1 := m_stored x3 ⟨o1, o2⟩ rfl (fun _ => rfl) x3.2.2.2.1 (fun q hq => m_cell_si G.2.1 ad M (b + 1) _ x hq) (by rw [m_cell_I G.2.1 ad (m_si M (b + 1) i.toNatClampNeg x) (t := 20) (n := n) hs (by decide) (by decide), m_i_upd]) F.2.2.2.2.2.2.2.2.2.2 p1 p2 p3
  exact kk p e s m args below meth c mc ms ad0 n0 H1 locs1 cells slots ad lsA F ⟨x1, x2, hR, p3, x5, x6, bd_t (bd_t (bd_t x7)), x8, x9⟩
theorem Ev.bast {a n : Nat} {i x : Int32} (hd : decode y.2.1 pc = .ok (.bastore, 1)) (hs : m_sh M a = (21, n)) (hin : vp_in i n) (kk : Ev l G d y (pc + 1) ls st (m_si M a i.toNatClampNeg (vp_nar .byte x)) bc bs Φ) : Ev l G d y pc ls (.int x :: .int i :: .ref a :: st) M bc bs Φ := by
  intro p e s m args below meth c mc ms ad0 n0 H locs cells slots ad lsA F X0
  obtain ⟨x1, x2, x3, x4, x5, x6, x7, x8, x9⟩ := id X0
  obtain ⟨o1, o2⟩ := m_own x3 (a := a) (by rw [hs]; simp)
  have hw := m_ws_at G.2.1 ad M ⟨o1, o2⟩
  rw [m_cell_I G.2.1 ad M hs (by decide) (by decide)] at hw
  obtain ⟨b, rfl⟩ : ∃ b, a = b + 1 := ⟨a - 1, by omega⟩
  refine va_bast (D := G.1) (cl := vwCl) F.1 F.2.1 F.2.2.2.2.2.2.2.2.1.1 x3.1 x3.2.1 x4 (b + 1 - 100) 1 hw rfl hin hd fun H1 locs1 p1 p2 p3 => ?_
  have hR : RelE G (m_si M (b + 1) i.toNatClampNeg (vp_nar .byte x)) ad H1 := m_stored x3 ⟨o1, o2⟩ rfl (fun _ => rfl) x3.2.2.2.1 (fun q hq => m_cell_si G.2.1 ad M (b + 1) _ _ hq) (by rw [m_cell_I G.2.1 ad (m_si M (b + 1) i.toNatClampNeg (vp_nar .byte x)) (t := 21) (n := n) hs (by decide) (by decide), m_i_upd]) F.2.2.2.2.2.2.2.2.2.2 p1 p2 p3
  exact kk p e s m args below meth c mc ms ad0 n0 H1 locs1 cells slots ad lsA F ⟨x1, x2, hR, p3, x5, x6, bd_t (bd_t (bd_t x7)), x8, x9⟩
theorem Ev.last {a n : Nat} {i : Int32} {x : Int64} (hd : decode y.2.1 pc = .ok (.lastore, 1)) (hs : m_sh M a = (22, n)) (hin : vp_in i n) (kk : Ev l G d y (pc + 1) ls st (m_sl M a i.toNatClampNeg x) bc bs Φ) : Ev l G d y pc ls (.long x :: .int i :: .ref a :: st) M bc bs Φ := by
  intro p e s m args below meth c mc ms ad0 n0 H locs cells slots ad lsA F X0
  obtain ⟨x1, x2, x3, x4, x5, x6, x7, x8, x9⟩ := id X0
  obtain ⟨o1, o2⟩ := m_own x3 (a := a) (by rw [hs]; simp)
  have hw := m_ws_at G.2.1 ad M ⟨o1, o2⟩
  rw [m_cell_L G.2.1 ad M hs] at hw
  obtain ⟨b, rfl⟩ : ∃ b, a = b + 1 := ⟨a - 1, by omega⟩
  refine va_last (D := G.1) (cl := vwCl) F.1 F.2.1 F.2.2.2.2.2.2.2.2.1.1 x3.1 x3.2.1 x4 (b + 1 - 100) 2 hw rfl hin hd fun H1 locs1 p1 p2 p3 => ?_
  have hR : RelE G (m_sl M (b + 1) i.toNatClampNeg x) ad H1 := m_stored x3 ⟨o1, o2⟩ rfl (fun _ => rfl) x3.2.2.2.1 (fun q hq => m_cell_sl G.2.1 ad M (b + 1) _ _ hq) (by rw [m_cell_L G.2.1 ad (m_sl M (b + 1) i.toNatClampNeg x) (n := n) hs, m_l_upd]) F.2.2.2.2.2.2.2.2.2.2 p1 p2 p3
  exact kk p e s m args below meth c mc ms ad0 n0 H1 locs1 cells slots ad lsA F ⟨x1, x2, hR, p3, x5, x6, bd_t (bd_t (bd_t x7)), x8, x9⟩
end R3
end
section
/-! ===== rules: returns and calls ===== -/
theorem tr_ext {ad ad' : Nat → Nat} {n : Nat} (h : ∀ a, a < n → ad' a = ad a) {v : Value} (hv : bdL n [v]) : tr ad' v = tr ad v := by
  cases v with
  | ref k =>
    cases k with
    | zero => rfl
    | succ k =>
      show Value.ref (ad' (k + 1)) = Value.ref (ad (k + 1))
      rw [h (k + 1) (bd_h hv)]
  | _ => rfl
theorem tr_extL {ad ad' : Nat → Nat} {n : Nat} (h : ∀ a, a < n → ad' a = ad a) {l : List Value} (hv : bdL n l) : l.map (tr ad') = l.map (tr ad) :=
  List.map_congr_left fun v hm => tr_ext h (fun a ha => hv a (by rw [List.mem_singleton.mp ha]; exact hm))
theorem Lv.ext {ad ad' : Nat → Nat} {n nL : Nat} {ls : List Value} {lsA : Array Slot} (h : ∀ a, a < n → ad' a = ad a) (hb : bdL n ls) (hL : Lv ad ls nL lsA) : Lv ad' ls nL lsA :=
  ⟨hL.1, hL.2.1, fun i v hi hv => by rw [tr_ext h (fun a ha => hb a (by rw [List.mem_singleton.mp ha]; exact List.mem_of_getElem? hi))]; exact hL.2.2 i v hi hv⟩
theorem bd_le {n n' : Nat} (h : n ≤ n') {l : List Value} (hb : bdL n l) : bdL n' l := fun a ha => Nat.lt_of_lt_of_le (hb a ha) h
section R4
variable {l : Launch} {G : Gx} {d : Nat} {y : MR} {pc : Nat} {ls st : List Value} {M : Mm} {bc bs : Nat} {Φ : OutV → Mm → Prop}
theorem Ev.iret {v : Int32} {ty : FieldType} (hd : decode y.2.1 pc = .ok (.ireturn, 1)) (hr : y.2.2.2 = some ty) (hn : narrow ty (.int v) = .int v) (hq : Φ (.inl (some (.int v))) M) : Ev l G d y pc ls [.int v] M bc bs Φ := by
  intro p e s m args below meth c mc ms ad0 n0 H locs cells slots ad lsA F X0
  obtain ⟨x1, x2, x3, x4, x5, x6, x7, x8, x9⟩ := id X0
  refine vx_ret (W.widen (k := mc) (n := ms) (by omega) (by omega) ?_)
  exact W.zret F.1 F.2.1 (F.2.2.1.trans hr) hn (fun t ht hW => ⟨some (.int v), M, ad, rfl, hq, x8, x9, x7, by rw [ht]; exact x3, by rw [ht]; exact x4.1⟩) (fun q hq => x4.2.2 q hq) hd F.2.2.2.2.2.2.1
theorem Ev.lret {v : Int64} (hd : decode y.2.1 pc = .ok (.lreturn, 1)) (hr : y.2.2.2 = some .long) (hq : Φ (.inl (some (.long v))) M) : Ev l G d y pc ls [.long v] M bc bs Φ := by
  intro p e s m args below meth c mc ms ad0 n0 H locs cells slots ad lsA F X0
  obtain ⟨x1, x2, x3, x4, x5, x6, x7, x8, x9⟩ := id X0
  refine vx_ret (W.widen (k := mc) (n := ms) (by omega) (by omega) ?_)
  exact W.lret F.1 F.2.1 (F.2.2.1.trans hr) (fun t ht hW => ⟨some (.long v), M, ad, rfl, hq, x8, x9, x7, by rw [ht]; exact x3, by rw [ht]; exact x4.1⟩) (fun q hq => x4.2.2 q hq) hd F.2.2.2.2.2.2.1
theorem Ev.aret {v : Nat} {rt : FieldType} (hd : decode y.2.1 pc = .ok (.areturn, 1)) (hr : y.2.2.2 = some rt) (hrt : (∃ n, rt = .object n) ∨ ∃ t, rt = .array t) (hq : Φ (.inl (some (.ref v))) M) : Ev l G d y pc ls [.ref v] M bc bs Φ := by
  intro p e s m args below meth c mc ms ad0 n0 H locs cells slots ad lsA F X0
  obtain ⟨x1, x2, x3, x4, x5, x6, x7, x8, x9⟩ := id X0
  refine vx_ret (W.widen (k := mc) (n := ms) (by omega) (by omega) ?_)
  refine W.aret (v := tr ad (.ref v)) F.1 F.2.1 (F.2.2.1.trans hr) hrt (by cases v with | zero => exact Or.inl rfl | succ v => exact Or.inr ⟨_, rfl⟩) (fun t ht hW => ⟨some (.ref v), M, ad, rfl, hq, x8, x9, x7, by rw [ht]; exact x3, by rw [ht]; exact x4.1⟩) (fun q hq => x4.2.2 q hq) hd F.2.2.2.2.2.2.1
theorem Ev.vret (hd : decode y.2.1 pc = .ok (.return_, 1)) (hr : y.2.2.2 = none) (hq : Φ (.inl none) M) : Ev l G d y pc ls [] M bc bs Φ := by
  intro p e s m args below meth c mc ms ad0 n0 H locs cells slots ad lsA F X0
  obtain ⟨x1, x2, x3, x4, x5, x6, x7, x8, x9⟩ := id X0
  refine vx_ret (W.widen (k := mc) (n := ms) (by omega) (by omega) ?_)
  exact W.vret F.1 F.2.1 (F.2.2.1.trans hr) (fun t ht hW => ⟨none, M, ad, rfl, hq, x8, x9, x7, by rw [ht]; exact x3, by rw [ht]; exact x4.1⟩) (fun q hq => x4.2.2 q hq) hd F.2.2.2.2.2.2.1
theorem Ev.objInit {idx a : Nat} (hd : decode y.2.1 pc = .ok (.invokespecial idx, 3)) (hl : Cond.methodLink y.1.cls idx Lib.objectInit ∈ lwg) (h1 : Cond.instanceMethod Lib.objectInit ∈ lwg) (h2 : Cond.code Lib.objectInit ⟨#[0xb1]⟩ 1 none ∈ lwg) (hst : (st.map fun v => v.category).sum ≤ 8) (hd1 : 1 ≤ d) (ha : a ≠ 0) (kk : Ev l G d y (pc + 3) ls st M bc bs Φ) : Ev l G d y pc ls (.ref a :: st) M bc bs Φ := by
  intro p e s m args below meth c mc ms ad0 n0 H locs cells slots ad lsA F X0
  obtain ⟨x1, x2, x3, x4, x5, x6, x7, x8, x9⟩ := id X0
  have K := kk p e s m args below meth c mc ms ad0 n0 H locs cells slots ad lsA F ⟨x1, x2, x3, x4, x5, x6, bd_t x7, x8, x9⟩
  obtain ⟨b, rfl⟩ : ∃ b, a = b + 1 := ⟨a - 1, by omega⟩
  have hsum : ((st.map (tr ad)).map fun v => v.category).sum ≤ 8 := by
    rw [List.map_map, show ((fun v : Value => v.category) ∘ tr ad) = fun v => v.category from funext fun v => tr_cat ad v]
    exact hst
  have hroom := lv_room (m := m) (pc := pc) (ls := lsA) (rest := (Value.ref (b + 1) :: st).map (tr ad)) hsum
  refine W.objInit F.1 F.2.1 F.2.2.2.2.1 (F.2.2.2.2.2.1 _ hl) (F.2.2.2.2.2.1 _ h1) (F.2.2.2.2.2.1 _ h2) rfl (x5.1.trans F.2.2.2.1.symm) rfl hd hd1 ?_ K
  show _ ≤ 64 * d
  omega
/-- what a call leaves: it has returned, or thrown out of this method (which catches nothing) -/
theorem Ev.run {bc2 bs2 : Nat} {Φ2 : OutV → Mm → Prop} {st0 : List Value}
    (hrun : ∀ (p : Program) (e : Env) (s : State) (m : MethodId) (args : Array Value) (below : List Frame) (meth : Method) (c : Code) (mc ms : Nat) (H : Heap) (locs : List Loc) (cells slots : Nat) (ad : Nat → Nat) (lsA : Array Slot), FrOK G y p s m args meth c → RelE G M ad H → lsA.size = y.2.2.1 → bdL (m_nx M) st0 → cells + bc2 ≤ mc → slots + bs2 ≤ ms →
      vx_Run p l e (rmO d mc ms) s m args below meth c H locs cells slots bc2 bs2 (F0 m pc lsA (st0.map (tr ad))) (st.map (tr ad)) (fun s0 o t => QcO G ad (m_nx M) Φ2 args s0 o t) (XcO G ad (m_nx M) Φ2) (fun q => G.2.2.1.size ≤ q))
    (hbd : ∀ n, bdL n st0 → bdL n st) (kr : ∀ v M', Φ2 (.inl v) M' → Ev l G d y (pc + 3) ls (v.toList ++ st) M' bc bs Φ) (kx : ∀ E M', Φ2 (.inr E) M' → Φ (.inr E) M') : Ev l G d y pc ls st0 M (bc2 + bc) (bs2 + bs) Φ := by
  intro p e s m args below meth c mc ms ad0 n0 H locs cells slots ad lsA F X0
  obtain ⟨x1, x2, x3, x4, x5, x6, x7, x8, x9⟩ := id X0
  intro T hT X
  rcases hrun p e s m args below meth c mc ms H locs cells slots ad lsA F x3 x5.1 x7 (by omega) (by omega) T hT X with ⟨v0, st₀, t, T', L, h0, X', hL, e1, e2, ⟨v, M', ad', hv, hΦ, hE, hn, hb, hR, hz⟩, go⟩ | ⟨q, st₀, t, T', L, E, ce, h0, X', hL, e1, e2, ⟨M', ad', hΦ, hE, hn, hR, hz⟩, hce, hcv, hcl, go⟩
  · cases hv
    rw [← e1] at hR hz
    have hS : va_S (fun q => G.2.2.1.size ≤ q) s.heap T'.heap (locs ++ L) := ⟨Nat.le_trans x4.1 (by rw [← h0]; exact hz), fun q hq hA => by
      rw [hR.2.2.2.2.2.1 q (Nat.lt_of_not_le hA)]
      exact (F.2.2.2.2.2.2.2.2.2.2.2 q (Nat.lt_of_not_le hA)).symm, fun z hz' => (List.mem_append.mp hz').elim (x4.2.2 z) (hL z)⟩
    have K := kr v M' hΦ p e s m args below meth c mc ms ad0 n0 T'.heap (locs ++ L) (cells + bc2) (slots + bs2) ad' lsA F ⟨by omega, by omega, hR, hS, x5.ext hE x6, bd_le hn x6, fun a ha => (List.mem_append.mp ha).elim (hb a) (bd_le hn (hbd _ x7) a), fun a ha => (hE a (Nat.lt_of_lt_of_le ha x9)).trans (x8 a ha), Nat.le_trans x9 hn⟩
    rw [List.map_append, tr_extL hE (hbd _ x7)] at K
    obtain ⟨t2, a1, b1⟩ := K T' rfl X'
    refine ⟨t2, go t2 ?_, b1⟩
    have e3 : (Option.map (tr ad') v).toList = v.toList.map (tr ad') := by cases v <;> rfl
    show Steps p.tables e below (T'.setTop (F0 m (pc + 3) lsA ((Option.map (tr ad') v).toList ++ st.map (tr ad)))) t2
    rw [e3]
    exact a1
  · rw [← e1] at hR hz hce
    have hx : ∀ t : State, t.heap = T'.heap → s.vm.Alike t.vm → XcO G ad0 n0 Φ E s t := fun t ht _ => ⟨M', ad', kx E M' hΦ, fun a ha => (hE a (Nat.lt_of_lt_of_le ha x9)).trans (x8 a ha), Nat.le_trans x9 hn, by rw [ht]; exact hR, by rw [ht]; exact Nat.le_trans x4.1 (by rw [← h0]; exact hz)⟩
    have K := vx_out (p := p) (m := m) (l := l) (e := e) (R := rmO d mc ms) (args := args) (below := below) (c := c) (ls := lsA) (rest := st.map (tr ad)) (pc := pc) (Qc := QcO G ad0 n0 Φ) (mc := mc) (ms := ms) (cells := cells + bc2) (slots := slots + bs2) (fun x hx => (F.2.2.2.2.2.2.2.2.2.1 x hx).elim) F.2.2.2.2.2.2.1 hce hcv hcl hx (fun z hz' => (List.mem_append.mp hz').elim (x4.2.2 z) (hL z)) (by omega) (by omega)
    obtain ⟨t2, a1, b1⟩ := K T' rfl X'
    exact ⟨t2, go.trans a1, b1⟩
/-- a method as the tables know it: n its parameters -/
def MOK (z : MR) (n : Nat) : Prop := Cond.code z.1 z.2.1 z.2.2.1 z.2.2.2 ∈ lwg ∧ Cond.initialized z.1.cls ∈ lwg ∧ (z.1.cls ≠ "java/lang/invoke/MethodHandle" ∧ z.1.cls ≠ "java/lang/invoke/VarHandle") ∧ (parseMethodDescriptor z.1.desc).map (fun q => q.parameters.length) = some n ∧ z.2.2.1 ≤ 45
theorem m_wsok {s : State} {args : Array Value} (hts : ∀ w ∈ lwg, w.before args s = true) {z : MR} {n : Nat} (hm : MOK z n) : ∀ w ∈ wsY z, ∀ (a' : Array Value) (U : State), s.WarmedH U.vm → w.before a' U = true := by
  intro w hw a' U hW
  have hin : w ∈ lwg := (List.mem_cons.mp hw).elim (fun e => by rw [e]; exact hm.1) id
  exact word_at hW (lwg_good hin) (hts w hin)
theorem m_callB {d d2 mc ms bc2 bs2 : Nat} {s : State} {args : Array Value} (hts : ∀ w ∈ lwg, w.before args s = true) {z : MR} {n : Nat} (hm : MOK z n) {own : String} {idx : Nat} (hl : Cond.methodLink own idx z.1 ∈ lwg) (hdd : d2 < d) : CallB (rmO d mc ms) s args own idx z.1 z.2.1 z.2.2.1 z.2.2.2 (wsY z) (rmO d2 bc2 bs2) bc2 bs2 n := by
  refine ⟨rfl, rfl, hdd, ?_, m_wsok hts hm, List.mem_cons_self, hts _ hm.1, hts _ hm.2.1, hm.2.2.1, fun sig hs => ?_, hts _ hl⟩
  · show 8 + (z.2.2.1 + 11) + 64 * d2 ≤ 64 * d
    have := hm.2.2.2.2
    omega
  · have := hm.2.2.2.1
    rw [hs] at this
    exact (Option.some.inj this).symm
theorem m_callN {d d2 mc ms bc2 bs2 : Nat} {s : State} {args : Array Value} (hts : ∀ w ∈ lwg, w.before args s = true) (hts2 : ∀ w ∈ lwx, va_Nw w s) {z : MR} {n : Nat} (hm : MOK z n) {own host : String} {idx : Nat} (hl : Cond.methodLinkNest own idx z.1 host ∈ lwx) (hdd : d2 < d) : va_CN (rmO d mc ms) s args own idx z.1 host z.2.1 z.2.2.1 z.2.2.2 (wsY z) (rmO d2 bc2 bs2) bc2 bs2 n := by
  refine ⟨⟨rfl, rfl, hdd, ?_, m_wsok hts hm, List.mem_cons_self⟩, hts _ hm.1, hts _ hm.2.1, hm.2.2.1, fun sig hs => ?_, va_Nw.use rfl (hts2 _ hl)⟩
  · show 8 + (z.2.2.1 + 11) + 64 * d2 ≤ 64 * d
    have := hm.2.2.2.2
    omega
  · have := hm.2.2.2.1
    rw [hs] at this
    exact (Option.some.inj this).symm
theorem m_blind {av : List Value} {ad : Nat → Nat} : FrameBlind (fun a U => a = (av.map (tr ad)).toArray ∧ RelE G M ad U.heap ∧ KG G U) := fun a U g mk h => ⟨h.1, h.2.1, KG.same (s := U) rfl h.2.2⟩
theorem Ct.met {d bc bs : Nat} {y : MR} {av : List Value} {Φ : OutV → Mm → Prop} (h : Ct l G d y bc bs av M Φ) (hx : ∀ E M', ¬ Φ (.inr E) M') (ad : Nat → Nat) (hbd : bdL (m_nx M) av) : Met l y.1 (wsY y) (rmO d bc bs) (fun a U => a = (av.map (tr ad)).toArray ∧ RelE G M ad U.heap ∧ KG G U) (QcO G ad (m_nx M) Φ) bc bs (fun q => G.2.2.1.size ≤ q) := by
  intro p e ha hc hk s m args below hf happ hP hK
  obtain ⟨n, o, h1, h2, h3, h4⟩ := h ad hbd p e ha hc hk s m args below hf happ hP hK
  refine ⟨n, o, h1, h2, h3, ?_⟩
  rcases h4 with h4 | ⟨q, -, E, ce, L, ⟨M', ad', hΦ, -⟩, -⟩
  · exact h4
  · exact (hx E M' hΦ).elim
theorem m_sum {ad : Nat → Nat} (hst : (st.map fun v => v.category).sum ≤ 8) : ((st.map (tr ad)).map fun v => v.category).sum ≤ 8 := by
  rw [List.map_map, show ((fun v : Value => v.category) ∘ tr ad) = fun v => v.category from funext fun v => tr_cat ad v]
  exact hst
theorem m_bd_args {n a : Nat} {av : List Value} (h : bdL n (av.reverse ++ .ref a :: st)) : bdL n (.ref a :: av) ∧ bdL n st :=
  ⟨fun b hb => h b ((List.mem_cons.mp hb).elim (fun e => by rw [e]; exact List.mem_append_right _ List.mem_cons_self) (fun e => List.mem_append_left _ (List.mem_reverse.mpr e))), fun b hb => h b (List.mem_append_right _ (List.mem_cons_of_mem _ hb))⟩
theorem Ev.callV {d2 idx ci a n bc2 bs2 : Nat} {z : MR} {av : List Value} {Φ2 : OutV → Mm → Prop} (hd : decode y.2.1 pc = .ok (.invokevirtual idx, 3)) (hm : MOK z n) (hn : av.length = n) (hl : Cond.methodLink y.1.cls idx z.1 ∈ lwg) (hi : Cond.instanceMethod z.1 ∈ lwg) (hsel : Cond.selects z.1.cls z.1 z.1 ∈ lwg) (hci : ci < 12) (hcn : (vwCl[ci]?).map (fun q => q.1) = some z.1.cls) (hs : (m_sh M a).1 = ci) (hdd : d2 < d) (hst : (st.map fun v => v.category).sum ≤ 8)
    (hM : Ct l G d2 z bc2 bs2 (.ref a :: av) M Φ2) (kr : ∀ v M', Φ2 (.inl v) M' → Ev l G d y (pc + 3) ls (v.toList ++ st) M' bc bs Φ) (kx : ∀ E M', Φ2 (.inr E) M' → Φ (.inr E) M') : Ev l G d y pc ls (av.reverse ++ .ref a :: st) M (bc2 + bc) (bs2 + bs) Φ := by
  refine Ev.run (st := st) (Φ2 := Φ2) ?_ (fun n h => (m_bd_args h).2) kr kx
  intro p e s m args below meth c mc ms H locs cells slots ad lsA F x3 hsz hb hcc hss
  obtain ⟨o1, o2⟩ := m_own x3 (a := a) (by rw [hs]; omega)
  have hw := m_ws_at G.2.1 ad M ⟨o1, o2⟩
  rw [m_cell_O G.2.1 ad M hs hci] at hw
  obtain ⟨b, rfl⟩ : ∃ b, a = b + 1 := ⟨a - 1, by omega⟩
  obtain ⟨r, hr1, cell, c1, c2, c3, -⟩ := x3.1 _ _ hw
  have hcls : s.vm.findClass z.1.cls = some cell.cls := by
    have h1 := (F.2.2.2.2.2.2.2.2.1.1.1 ci r hr1).2.1
    have hr2 : vwCl[ci]? = some r := hr1
    rw [hr2] at hcn
    rw [← Option.some.inj hcn, c2]
    exact h1
  exact vx_runV (C := z.1.cls) (b := ad (b + 1)) (As := av.map (tr ad)) (rest := st.map (tr ad)) (Ts := lwg) ⟨F.1, F.2.1, F.2.2.2.1, F.2.2.2.2.1, F.2.2.2.2.2.1⟩ (hM ad (m_bd_args hb).1) ⟨m_callB F.2.2.2.2.2.1 hm hl hdd, F.2.2.2.2.2.1 _ hi, F.2.2.2.2.2.1 _ hsel⟩
    ⟨m_blind, ⟨cell, c1, by rw [c3]; rfl, hcls⟩, fun U hU hW => ⟨rfl, by rw [hU]; exact x3, F.2.2.2.2.2.2.2.2.1.warm hW⟩⟩ rfl (by rw [List.length_map]; exact hn) hsz (by show List.map (tr ad) (av.reverse ++ Value.ref (b + 1) :: st) = _; rw [List.map_append, List.map_reverse]; rfl) (lv_room (m_sum hst)) hd ⟨hcc, hss⟩
theorem Ev.callS {d2 idx n bc2 bs2 : Nat} {z : MR} {av : List Value} {Φ2 : OutV → Mm → Prop} (hd : decode y.2.1 pc = .ok (.invokestatic idx, 3)) (hm : MOK z n) (hn : av.length = n) (hl : Cond.methodLink y.1.cls idx z.1 ∈ lwg) (hi : Cond.static z.1 ∈ lwg) (hdd : d2 < d) (hst : (st.map fun v => v.category).sum ≤ 8)
    (hM : Ct l G d2 z bc2 bs2 av M Φ2) (kr : ∀ v M', Φ2 (.inl v) M' → Ev l G d y (pc + 3) ls (v.toList ++ st) M' bc bs Φ) (kx : ∀ E M', Φ2 (.inr E) M' → Φ (.inr E) M') : Ev l G d y pc ls (av.reverse ++ st) M (bc2 + bc) (bs2 + bs) Φ := by
  refine Ev.run (st := st) (Φ2 := Φ2) ?_ (fun n h a ha => h a (List.mem_append_right _ ha)) kr kx
  intro p e s m args below meth c mc ms H locs cells slots ad lsA F x3 hsz hb hcc hss
  exact vx_runS (As := av.map (tr ad)) (rest := st.map (tr ad)) (Ts := lwg) ⟨F.1, F.2.1, F.2.2.2.1, F.2.2.2.2.1, F.2.2.2.2.2.1⟩ (hM ad (fun a ha => hb a (List.mem_append_left _ (List.mem_reverse.mpr ha)))) ⟨m_callB F.2.2.2.2.2.1 hm hl hdd, F.2.2.2.2.2.1 _ hi⟩
    ⟨m_blind, fun U hU hW => ⟨rfl, by rw [hU]; exact x3, F.2.2.2.2.2.2.2.2.1.warm hW⟩⟩ rfl (by rw [List.length_map]; exact hn) hsz (by show List.map (tr ad) (av.reverse ++ st) = _; rw [List.map_append, List.map_reverse]) (lv_room (m_sum hst)) hd ⟨hcc, hss⟩
/-- a run that can't throw -/
theorem m_runOf {p : Program} {e : Env} {R : Room} {s : State} {m : MethodId} {args : Array Value} {below : List Frame} {meth : Method} {c : Code} {H : Heap} {locs : List Loc} {cells slots mc ms : Nat} {g : JFrame} {rest : List Value} {Qa : State → Outcome → State → Prop} {XC : String → State → State → Prop} {free : Addr → Prop} (h : va_Run p l e R s m args below meth c H locs cells slots mc ms g rest Qa free) : vx_Run p l e R s m args below meth c H locs cells slots mc ms g rest Qa XC free := fun T hT X => Or.inl (h T hT X)
theorem Ev.callI {d2 idx a n bc2 bs2 : Nat} {z : MR} {av : List Value} {Φ2 : OutV → Mm → Prop} (hd : decode y.2.1 pc = .ok (.invokespecial idx, 3)) (hm : MOK z n) (hn : av.length = n) (hl : Cond.methodLink y.1.cls idx z.1 ∈ lwg ∨ ∃ host, Cond.methodLinkNest y.1.cls idx z.1 host ∈ lwx) (hi : Cond.instanceMethod z.1 ∈ lwg) (hin : z.1.name = "<init>") (hret : z.2.2.2 = none) (ha : a ≠ 0) (hdd : d2 < d) (hst : (st.map fun v => v.category).sum ≤ 8)
    (hM : Ct l G d2 z bc2 bs2 (.ref a :: av) M Φ2) (hx : ∀ E M', ¬ Φ2 (.inr E) M') (kr : ∀ v M', Φ2 (.inl v) M' → Ev l G d y (pc + 3) ls (v.toList ++ st) M' bc bs Φ) : Ev l G d y pc ls (av.reverse ++ .ref a :: st) M (bc2 + bc) (bs2 + bs) Φ := by
  refine Ev.run (st := st) (Φ2 := Φ2) ?_ (fun n h => (m_bd_args h).2) kr (fun E M' h => (hx E M' h).elim)
  intro p e s m args below meth c mc ms H locs cells slots ad lsA F x3 hsz hb hcc hss
  obtain ⟨b, rfl⟩ : ∃ b, a = b + 1 := ⟨a - 1, by omega⟩
  have hMt := hM.met hx ad (m_bd_args hb).1
  have hstk : List.map (tr ad) (av.reverse ++ Value.ref (b + 1) :: st) = (av.map (tr ad)).reverse ++ Value.ref (ad (b + 1)) :: st.map (tr ad) := by rw [List.map_append, List.map_reverse]; rfl
  rcases hl with hl | ⟨host, hl⟩
  · have cb := m_callB (d := d) (d2 := d2) (mc := mc) (ms := ms) (bc2 := bc2) (bs2 := bs2) F.2.2.2.2.2.1 hm hl hdd
    rw [hret] at cb
    exact m_runOf (va_runI (b := ad (b + 1)) (As := av.map (tr ad)) (rest := st.map (tr ad)) (Ts := lwg) ⟨F.1, F.2.1, F.2.2.2.1, F.2.2.2.2.1, F.2.2.2.2.2.1⟩ hMt ⟨cb, hin, F.2.2.2.2.2.1 _ hi⟩
      ⟨m_blind, fun U hU hW => ⟨rfl, by rw [hU]; exact x3, F.2.2.2.2.2.2.2.2.1.warm hW⟩⟩ rfl (by rw [List.length_map]; exact hn) hsz hstk (lv_room (m_sum hst)) hd ⟨hcc, hss⟩)
  · have cb := m_callN (d := d) (d2 := d2) (mc := mc) (ms := ms) (bc2 := bc2) (bs2 := bs2) F.2.2.2.2.2.1 F.2.2.2.2.2.2.2.2.1.2.2.2.2.2.2.2.2.2 hm hl hdd
    rw [hret] at cb
    exact m_runOf (va_runIN (b := ad (b + 1)) (As := av.map (tr ad)) (rest := st.map (tr ad)) (Ts := lwg) ⟨F.1, F.2.1, F.2.2.2.1, F.2.2.2.2.1, F.2.2.2.2.2.1⟩ hMt ⟨cb, hin, F.2.2.2.2.2.1 _ hi⟩
      ⟨m_blind, fun U hU hW => ⟨rfl, by rw [hU]; exact x3, F.2.2.2.2.2.2.2.2.1.warm hW⟩⟩ rfl (by rw [List.length_map]; exact hn) hsz hstk (lv_room (m_sum hst)) hd ⟨hcc, hss⟩)
theorem Ev.callSN {d2 idx n bc2 bs2 : Nat} {z : MR} {host : String} {av : List Value} {Φ2 : OutV → Mm → Prop} (hd : decode y.2.1 pc = .ok (.invokestatic idx, 3)) (hm : MOK z n) (hn : av.length = n) (hl : Cond.methodLinkNest y.1.cls idx z.1 host ∈ lwx) (hi : Cond.static z.1 ∈ lwg) (hdd : d2 < d) (hst : (st.map fun v => v.category).sum ≤ 8)
    (hM : Ct l G d2 z bc2 bs2 av M Φ2) (hx : ∀ E M', ¬ Φ2 (.inr E) M') (kr : ∀ v M', Φ2 (.inl v) M' → Ev l G d y (pc + 3) ls (v.toList ++ st) M' bc bs Φ) : Ev l G d y pc ls (av.reverse ++ st) M (bc2 + bc) (bs2 + bs) Φ := by
  refine Ev.run (st := st) (Φ2 := Φ2) ?_ (fun n h a ha => h a (List.mem_append_right _ ha)) kr (fun E M' h => (hx E M' h).elim)
  intro p e s m args below meth c mc ms H locs cells slots ad lsA F x3 hsz hb hcc hss
  exact m_runOf (va_runSN (As := av.map (tr ad)) (rest := st.map (tr ad)) (Ts := lwg) ⟨F.1, F.2.1, F.2.2.2.1, F.2.2.2.2.1, F.2.2.2.2.2.1⟩ (hM.met hx ad (fun a ha => hb a (List.mem_append_left _ (List.mem_reverse.mpr ha)))) ⟨m_callN F.2.2.2.2.2.1 F.2.2.2.2.2.2.2.2.1.2.2.2.2.2.2.2.2.2 hm hl hdd, F.2.2.2.2.2.1 _ hi, trivial⟩
    ⟨m_blind, fun U hU hW => ⟨rfl, by rw [hU]; exact x3, F.2.2.2.2.2.2.2.2.1.warm hW⟩⟩ rfl (by rw [List.length_map]; exact hn) hsz (by show List.map (tr ad) (av.reverse ++ st) = _; rw [List.map_append, List.map_reverse]) (lv_room (m_sum hst)) hd ⟨hcc, hss⟩)
end R4
end
section
/-! ===== rules: new cells ===== -/
theorem m_cell_al (cA : Nat → ClassId) (ad ad' : Nat → Nat) (M : Mm) (t : Nat × Nat) {b : Nat} (hb : b ≠ m_nx M) (hr : ∀ a k, m_r M a k < m_nx M) (he : ∀ a, a < m_nx M → ad' a = ad a) : m_cell cA ad' (m_al M t) b = m_cell cA ad M b := by
  have e1 : m_i (m_al M t) b = m_i M b := funext fun j => by rw [m_i_al, if_neg hb]
  have e2 : m_r (m_al M t) b = m_r M b := funext fun j => by rw [m_r_al, if_neg hb]
  have e3 : m_l (m_al M t) b = m_l M b := funext fun j => by rw [m_l_al, if_neg hb]
  have e4 : m_sh (m_al M t) b = m_sh M b := by rw [m_sh_al, if_neg hb]
  have e5 : ∀ k, tr ad' (.ref (m_r M b k)) = tr ad (.ref (m_r M b k)) := fun k => tr_ext he (bd_r (hr b k) (fun a h => by cases h))
  have e6 : ∀ ci, m_fv ad' (m_al M t) b ci = m_fv ad M b ci := fun ci => funext fun j => by
    unfold m_fv
    rw [e1, e2, e5]
  have e7 : (fun j => rf_ ad' (m_r M b j)) = fun j => rf_ ad (m_r M b j) := funext fun j => by
    unfold rf_
    by_cases h : m_r M b j = 0
    · rw [if_pos h, if_pos h]
    · rw [if_neg h, if_neg h, he _ (hr b j)]
  unfold m_cell
  rw [e4, e1, e2, e3, e6, e7]
theorem m_ws_al (cA : Nat → ClassId) (ad : Nat → Nat) (M : Mm) (t : Nat × Nat) (q : Nat) (hr : ∀ a k, m_r M a k < m_nx M) (hn : 100 ≤ m_nx M) {e : va_E} (he : m_cell cA (va_up ad (m_nx M) q) (m_al M t) (m_nx M) = e) : m_ws cA (va_up ad (m_nx M) q) (m_al M t) = m_ws cA ad M ++ [(q, e)] := by
  have hu : ∀ a, a < m_nx M → va_up ad (m_nx M) q a = ad a := fun a ha => by
    show (if a = m_nx M then q else ad a) = ad a
    rw [if_neg (by omega)]
  have hq : va_up ad (m_nx M) q (m_nx M) = q := by
    show (if m_nx M = m_nx M then q else ad (m_nx M)) = q
    rw [if_pos rfl]
  unfold m_ws
  rw [m_nx_al, show m_nx M + 1 - 100 = (m_nx M - 100) + 1 by omega, List.range_succ, List.map_append]
  congr 1
  · apply List.map_congr_left
    intro i hi
    have hi' := List.mem_range.mp hi
    rw [hu _ (by omega), m_cell_al cA ad _ M t (by omega) hr hu]
  · show [(va_up ad (m_nx M) q (100 + (m_nx M - 100)), m_cell cA (va_up ad (m_nx M) q) (m_al M t) (100 + (m_nx M - 100)))] = _
    rw [show 100 + (m_nx M - 100) = m_nx M by omega, hq, he]
section R5
variable {l : Launch} {G : Gx} {d : Nat} {y : MR} {pc : Nat} {ls st : List Value} {M : Mm} {bc bs : Nat} {Φ : OutV → Mm → Prop}
/-- a new cell of the shape t stands at q -/
theorem Ev.grown {pc2 n : Nat} {t : Nat × Nat} (kk : Ev l G d y pc2 ls (.ref (m_nx M) :: st) (m_al M t) bc bs Φ) (ht : t.1 ≠ 99)
    {p : Program} {e : Env} {s : State} {m : MethodId} {args : Array Value} {below : List Frame} {meth : Method} {c : Code} {mc ms : Nat} {ad0 : Nat → Nat} {n0 : Nat} {H : Heap} {locs : List Loc} {cells slots : Nat} {ad : Nat → Nat} {lsA : Array Slot} (F : FrOK G y p s m args meth c)
    (x1 : cells + (1 + bc) ≤ mc) (x2 : slots + (n + bs) ≤ ms) (x3 : RelE G M ad H) (x5 : Lv ad ls y.2.2.1 lsA) (x6 : bdL (m_nx M) ls) (x7 : bdL (m_nx M) st) (x8 : ∀ a, a < n0 → ad a = ad0 a) (x9 : n0 ≤ m_nx M)
    {q : Nat} {H1 : Heap} {el : va_E} (he : m_cell G.2.1 (va_up ad (m_nx M) q) (m_al M t) (m_nx M) = el) (p1 : va_P G.1 vwCl (m_ws G.2.1 ad M ++ [(q, el)]) H1) (p2 : va_D (fun q => G.2.2.1.size ≤ q) (m_ws G.2.1 ad M ++ [(q, el)])) (p3 : va_S (fun q => G.2.2.1.size ≤ q) s.heap H1 locs) :
    W p l e (rmO d mc ms) s m args below meth c H1 locs (cells + 1) (slots + n) (vx_MQ below (QcO G ad0 n0 Φ) (XcO G ad0 n0 Φ) args s mc ms (fun q => G.2.2.1.size ≤ q)) (F0 m pc2 lsA (.ref q :: st.map (tr ad))) := by
  have hu : ∀ a, a < m_nx M → va_up ad (m_nx M) q a = ad a := fun a ha => by
    show (if a = m_nx M then q else ad a) = ad a
    rw [if_neg (by omega)]
  have hq : va_up ad (m_nx M) q (m_nx M) = q := by
    show (if m_nx M = m_nx M then q else ad (m_nx M)) = q
    rw [if_pos rfl]
  have h100 := x3.2.2.1
  rw [← m_ws_al G.2.1 ad M t q x3.2.2.2.1 h100 he] at p1 p2
  have hR : RelE G (m_al M t) (va_up ad (m_nx M) q) H1 := by
    refine ⟨p1, p2, by rw [m_nx_al]; omega, fun a k => ?_, Nat.le_trans F.2.2.2.2.2.2.2.2.2.2.1 p3.1, fun z hz => ?_, fun a ha => ?_, fun a ha => ?_⟩
    · rw [m_nx_al, m_r_al]
      split
      · omega
      · have := x3.2.2.2.1 a k; omega
    · rw [p3.2.1 z (Nat.lt_of_lt_of_le hz F.2.2.2.2.2.2.2.2.2.2.1) (Nat.not_le.mpr hz)]
      exact F.2.2.2.2.2.2.2.2.2.2.2 z hz
    · rw [hu a (by omega)]
      exact x3.2.2.2.2.2.2.1 a ha
    · rw [m_nx_al] at ha
      rw [m_sh_al, if_neg (by omega)]
      exact x3.2.2.2.2.2.2.2 a (by omega)
  have K := kk p e s m args below meth c mc ms ad0 n0 H1 locs (cells + 1) (slots + n) (va_up ad (m_nx M) q) lsA F ⟨by omega, by omega, hR, p3, x5.ext hu x6, bd_le (by rw [m_nx_al]; omega) x6, bd_r (by rw [m_nx_al]; omega) (bd_le (by rw [m_nx_al]; omega) x7), fun a ha => (hu a (by omega)).trans (x8 a ha), by rw [m_nx_al]; omega⟩
  rw [List.map_cons, tr_extL hu x7] at K
  have e1 : tr (va_up ad (m_nx M) q) (.ref (m_nx M)) = .ref q := by
    obtain ⟨z, hz⟩ : ∃ z, m_nx M = z + 1 := ⟨m_nx M - 1, by omega⟩
    rw [hz] at hq ⊢
    show Value.ref (va_up ad (z + 1) q (z + 1)) = _
    rw [hq]
  rw [e1] at K
  exact K
theorem m_arrId {s : State} {cA cB : ClassId} {nm : String} (h1 : s.vm.findClass nm = some cA) (h2 : s.vm.findClass nm = some cB) : cA = cB := Option.some.inj (h1.symm.trans h2)
theorem Ev.newI {n : Int32} {N : Nat} (hd : decode y.2.1 pc = .ok (.newarray .int, 2)) (hw : Cond.arrayClass .int ∈ lwg) (hn : ¬ n < 0) (hN : n.toNatClampNeg = N) (hb : N * 4 ≤ 536870912) (kk : Ev l G d y (pc + 2) ls (.ref (m_nx M) :: st) (m_al M (20, N)) bc bs Φ) : Ev l G d y pc ls (.int n :: st) M (1 + bc) (N + bs) Φ := by
  intro p e s m args below meth c mc ms ad0 n0 H locs cells slots ad lsA F X0
  obtain ⟨x1, x2, x3, x4, x5, x6, x7, x8, x9⟩ := id X0
  refine va_newa (D := G.1) (cl := vwCl) (atype := .int) (ty := .int) (a0 := (N, .inl (fun _ => 0))) F.1 F.2.1 (F.2.2.2.2.2.1 _ hw) rfl F.2.2.2.2.2.2.2.2.1.1 x3.1 x3.2.1 x4 (fun q hq => Nat.le_trans F.2.2.2.2.2.2.2.2.2.2.1 hq) (fun cA => rfl) hn hN hb (show cells + 1 ≤ mc by omega) (show slots + N ≤ ms by omega) hd fun q cA H1 hK p1 p2 p3 => ?_
  have hid : cA = G.2.1 20 := m_arrId (hK.2 7 (cA, .int) rfl).2 (F.2.2.2.2.2.2.2.2.1.1.2 0 (G.2.1 20, .int) rfl).2
  subst hid
  refine Ev.grown kk (by simp) F x1 x2 x3 x5 x6 (bd_t x7) x8 x9 ?_ p1 p2 p3
  rw [m_cell_I G.2.1 _ (m_al M (20, N)) (t := 20) (n := N) (by rw [m_sh_al, if_pos rfl]) (by decide) (by decide)]
  rw [show m_i (m_al M (20, N)) (m_nx M) = fun _ => 0 from funext fun j => by rw [m_i_al, if_pos rfl]]
theorem Ev.newB {n : Int32} {N : Nat} (hd : decode y.2.1 pc = .ok (.newarray .byte, 2)) (hw : Cond.arrayClass .byte ∈ lwg) (hn : ¬ n < 0) (hN : n.toNatClampNeg = N) (hb : N * 1 ≤ 536870912) (kk : Ev l G d y (pc + 2) ls (.ref (m_nx M) :: st) (m_al M (21, N)) bc bs Φ) : Ev l G d y pc ls (.int n :: st) M (1 + bc) (N + bs) Φ := by
  intro p e s m args below meth c mc ms ad0 n0 H locs cells slots ad lsA F X0
  obtain ⟨x1, x2, x3, x4, x5, x6, x7, x8, x9⟩ := id X0
  refine va_newa (D := G.1) (cl := vwCl) (atype := .byte) (ty := .byte) (a0 := (N, .inl (fun _ => 0))) F.1 F.2.1 (F.2.2.2.2.2.1 _ hw) rfl F.2.2.2.2.2.2.2.2.1.1 x3.1 x3.2.1 x4 (fun q hq => Nat.le_trans F.2.2.2.2.2.2.2.2.2.2.1 hq) (fun cA => rfl) hn hN hb (show cells + 1 ≤ mc by omega) (show slots + N ≤ ms by omega) hd fun q cA H1 hK p1 p2 p3 => ?_
  have hid : cA = G.2.1 21 := m_arrId (hK.2 7 (cA, .byte) rfl).2 (F.2.2.2.2.2.2.2.2.1.1.2 1 (G.2.1 21, .byte) rfl).2
  subst hid
  refine Ev.grown kk (by simp) F x1 x2 x3 x5 x6 (bd_t x7) x8 x9 ?_ p1 p2 p3
  rw [m_cell_I G.2.1 _ (m_al M (21, N)) (t := 21) (n := N) (by rw [m_sh_al, if_pos rfl]) (by decide) (by decide)]
  rw [show m_i (m_al M (21, N)) (m_nx M) = fun _ => 0 from funext fun j => by rw [m_i_al, if_pos rfl]]
theorem Ev.newL {n : Int32} {N : Nat} (hd : decode y.2.1 pc = .ok (.newarray .long, 2)) (hw : Cond.arrayClass .long ∈ lwg) (hn : ¬ n < 0) (hN : n.toNatClampNeg = N) (hb : N * 8 ≤ 536870912) (kk : Ev l G d y (pc + 2) ls (.ref (m_nx M) :: st) (m_al M (22, N)) bc bs Φ) : Ev l G d y pc ls (.int n :: st) M (1 + bc) (N + bs) Φ := by
  intro p e s m args below meth c mc ms ad0 n0 H locs cells slots ad lsA F X0
  obtain ⟨x1, x2, x3, x4, x5, x6, x7, x8, x9⟩ := id X0
  refine va_newa (D := G.1) (cl := vwCl) (atype := .long) (ty := .long) (a0 := (N, .inr (.inl (fun _ => 0)))) F.1 F.2.1 (F.2.2.2.2.2.1 _ hw) rfl F.2.2.2.2.2.2.2.2.1.1 x3.1 x3.2.1 x4 (fun q hq => Nat.le_trans F.2.2.2.2.2.2.2.2.2.2.1 hq) (fun cA => rfl) hn hN hb (show cells + 1 ≤ mc by omega) (show slots + N ≤ ms by omega) hd fun q cA H1 hK p1 p2 p3 => ?_
  have hid : cA = G.2.1 22 := m_arrId (hK.2 7 (cA, .long) rfl).2 (F.2.2.2.2.2.2.2.2.1.1.2 2 (G.2.1 22, .long) rfl).2
  subst hid
  refine Ev.grown kk (by simp) F x1 x2 x3 x5 x6 (bd_t x7) x8 x9 ?_ p1 p2 p3
  rw [m_cell_L G.2.1 _ (m_al M (22, N)) (n := N) (by rw [m_sh_al, if_pos rfl])]
  rw [show m_l (m_al M (22, N)) (m_nx M) = fun _ => 0 from funext fun j => by rw [m_l_al, if_pos rfl]]
/-- new C[n] for the classes of Calls, Images, Words -/
theorem Ev.newQ {idx t t0 : Nat} {C : String} {n : Int32} {N : Nat} (hd : decode y.2.1 pc = .ok (.anewarray idx, 3)) (ht : 22 < t ∧ t < 99) (hC : ∀ cA, (kTys cA)[t0]? = some (cA t, .object C)) (hcl : Cond.classLink y.1.cls idx C ∈ lwg) (hov : Cond.arrayOver (.object C) ∈ lwx) (hn : ¬ n < 0) (hN : n.toNatClampNeg = N) (hb : N * 4 ≤ 536870912) (kk : Ev l G d y (pc + 3) ls (.ref (m_nx M) :: st) (m_al M (t, N)) bc bs Φ) : Ev l G d y pc ls (.int n :: st) M (1 + bc) (N + bs) Φ := by
  intro p e s m args below meth c mc ms ad0 n0 H locs cells slots ad lsA F X0
  obtain ⟨x1, x2, x3, x4, x5, x6, x7, x8, x9⟩ := id X0
  have hov' : va_AO C s := F.2.2.2.2.2.2.2.2.1.2.2.2.2.2.2.2.2.2 _ hov
  refine va_newq (D := G.1) (cl := vwCl) F.1 F.2.1 F.2.2.2.2.1 (F.2.2.2.2.2.1 _ hcl) hov' F.2.2.2.2.2.2.2.2.1.1 x3.1 x3.2.1 x4 (fun q hq => Nat.le_trans F.2.2.2.2.2.2.2.2.2.2.1 hq) hn hN hb (show cells + 1 ≤ mc by omega) (show slots + N ≤ ms by omega) hd fun q cA H1 hK p1 p2 p3 => ?_
  have hid : cA = G.2.1 t := by
    obtain ⟨_, _, _, _, _, g1⟩ := (hK.2 7 (cA, .object C) rfl).2
    obtain ⟨_, _, _, _, _, g2⟩ := (F.2.2.2.2.2.2.2.2.1.1.2 t0 (G.2.1 t, .object C) (hC G.2.1)).2
    exact m_arrId g1 g2
  subst hid
  refine Ev.grown kk (show t ≠ 99 by omega) F x1 x2 x3 x5 x6 (bd_t x7) x8 x9 ?_ p1 p2 p3
  rw [m_cell_R G.2.1 _ (m_al M (t, N)) (t := t) (n := N) (by rw [m_sh_al, if_pos rfl]) ht.1]
  rw [show (fun j => rf_ (va_up ad (m_nx M) q) (m_r (m_al M (t, N)) (m_nx M) j)) = fun _ => none from funext fun j => by rw [m_r_al, if_pos rfl]; rfl]
theorem Ev.newO {idx ci : Nat} {C : String} {T : u_T} (hd : decode y.2.1 pc = .ok (.new idx, 3)) (hc : vwCl[ci]? = some (C, T, nFd ci)) (hci : ci < 12) (hcl : Cond.classLink y.1.cls idx C ∈ lwg) (hins : Cond.instantiable C (nFd ci) ∈ lwg) (hini : Cond.initialized C ∈ lwg) (kk : Ev l G d y (pc + 3) ls (.ref (m_nx M) :: st) (m_al M (ci, 0)) bc bs Φ) : Ev l G d y pc ls st M (1 + bc) (nFd ci + bs) Φ := by
  intro p e s m args below meth c mc ms ad0 n0 H locs cells slots ad lsA F X0
  obtain ⟨x1, x2, x3, x4, x5, x6, x7, x8, x9⟩ := id X0
  refine va_new (D := G.1) (cl := vwCl) (fs := (List.range (nFd ci)).map (fun j => defaultValue (tyC ci j))) F.1 F.2.1 F.2.2.2.2.2.1 (in_C ci hci _ hc) (tyC ci) (ty_C ci hci _ hc) F.2.2.2.2.1 (F.2.2.2.2.2.1 _ hcl) (F.2.2.2.2.2.1 _ hins) (F.2.2.2.2.2.1 _ hini) F.2.2.2.2.2.2.2.2.1.1 x3.1 x3.2.1 x4 (fun q hq => Nat.le_trans F.2.2.2.2.2.2.2.2.2.2.1 hq) hc (fun j hj => ?_) (show cells + 1 ≤ mc by omega) (show slots + nFd ci ≤ ms by omega) hd fun q H1 p1 p2 p3 => ?_
  · show _ = ((List.range (nFd ci)).map (fun j => defaultValue (tyC ci j))).getD j Value.null
    rw [List.getD_eq_getElem?_getD, List.getElem?_map, List.getElem?_range hj]
    rfl
  · refine Ev.grown kk (show ci ≠ 99 by omega) F x1 x2 x3 x5 x6 x7 x8 x9 ?_ p1 p2 p3
    rw [m_cell_O G.2.1 _ (m_al M (ci, 0)) (ci := ci) (by rw [m_sh_al, if_pos rfl]) hci]
    congr 2
    apply List.map_congr_left
    intro j hj
    unfold m_fv
    rw [m_i_al, if_pos rfl, m_r_al, if_pos rfl]
    have key : ∀ r : vw_C, vwCl[ci]? = some r → ∀ k, k < r.2.2 → (if isI (tyC ci k) = true then Value.int 0 else Value.null) = defaultValue (tyC ci k) := by
      intro r hr k hk
      have hall : ∀ i, i < 12 → ∀ k, k < nFd i → (if isI (tyC i k) = true then Value.int 0 else Value.null) = defaultValue (tyC i k) := by decide +kernel
      rw [hc] at hr
      cases hr
      exact hall ci hci k hk
    exact key _ hc j (List.mem_range.mp hj)
end R5
end
section
/-! ===== rules: stores of references, constants of before, throws ===== -/
theorem f_Z_bd : ∀ q ∈ f_Z, (match q.2.2.2 with | .ref a => decide (a < 100) | _ => true) = true := by decide +kernel
theorem f_O_bd : ∀ q ∈ f_O, (match q.2.2.2.2 with | .ref a => decide (a < 100) | _ => true) = true ∧ (0 < q.2.2.2.1 ∧ q.2.2.2.1 < 100) := by decide +kernel
theorem f_T_bd : ∀ q ∈ f_T, (0 < q.2.1 ∧ q.2.1 < 100) ∧ ∀ v ∈ q.2.2.2, (match v with | .ref a => decide (a < 100) | _ => true) = true := by decide +kernel
theorem bd_of {v : Value} (h : (match v with | .ref a => decide (a < 100) | _ => true) = true) : bdL 100 [v] := by
  intro a ha
  rw [List.mem_singleton] at ha
  subst ha
  exact of_decide_eq_true h
section R6
variable {l : Launch} {G : Gx} {d : Nat} {y : MR} {pc : Nat} {ls st : List Value} {M : Mm} {bc bs : Nat} {Φ : OutV → Mm → Prop}
theorem m_keepH {p : Program} {s : State} {m : MethodId} {args : Array Value} {meth : Method} {c : Code} (F : FrOK G y p s m args meth c) : ∀ a : Nat, a < G.2.2.1.size → ¬ (fun q => G.2.2.1.size ≤ q) a → s.heap[a]? = G.2.2.1[a]? := fun a ha _ => F.2.2.2.2.2.2.2.2.2.2.2 a ha
theorem m_trf {ad : Nat → Nat} {H : Heap} (h : RelE G M ad H) {v : Value} (hv : bdL 100 [v]) : tr ad v = tr G.2.2.2 v := tr_ext (fun a ha => h.2.2.2.2.2.2.1 a ha) hv
theorem Ev.gets {idx : Nat} {C n ds : String} {v : Value} (hd : decode y.2.1 pc = .ok (.getstatic idx, 3)) (hZ : (C, n, ds, v) ∈ f_Z) (hl : Cond.fieldLink y.1.cls idx C n ds ∈ lwg ∨ ∃ host, Cond.fieldLinkNest y.1.cls idx C n ds host ∈ lwx) (kk : Ev l G d y (pc + 3) ls (v :: st) M bc bs Φ) : Ev l G d y pc ls st M bc bs Φ := by
  intro p e s m args below meth c mc ms ad0 n0 H locs cells slots ad lsA F X0
  obtain ⟨x1, x2, x3, x4, x5, x6, x7, x8, x9⟩ := id X0
  have hb : bdL 100 [v] := bd_of (f_Z_bd _ hZ)
  have K := kk p e s m args below meth c mc ms ad0 n0 H locs cells slots ad lsA F ⟨x1, x2, x3, x4, x5, x6, (fun a ha => (List.mem_cons.mp ha).elim (fun e => Nat.lt_of_lt_of_le (hb a (by rw [e]; exact List.mem_cons_self)) x3.2.2.1) (x7 a)), x8, x9⟩
  rw [List.map_cons, m_trf x3 hb] at K
  have hz := (F.2.2.2.2.2.2.2.2.1.2.1 _ hZ).kept (m_keepH F)
  rcases hl with hl | ⟨host, hl⟩
  · exact va_gets F.1 F.2.1 hz x4 F.2.2.2.2.1 (F.2.2.2.2.2.1 _ hl) (fun _ h => h) hd K
  · exact va_getsN F.1 F.2.1 hz x4 F.2.2.2.2.1 (va_Nw.use rfl (F.2.2.2.2.2.2.2.2.1.2.2.2.2.2.2.2.2.2 _ hl)) (fun _ h => h) hd K
/-- a field of a constant of before -/
theorem Ev.getF {idx a : Nat} {C n ds : String} {v : Value} (hd : decode y.2.1 pc = .ok (.getfield idx, 3)) (hZ : (C, n, ds, a, v) ∈ f_O) (hl : Cond.fieldLink y.1.cls idx C n ds ∈ lwg) (kk : Ev l G d y (pc + 3) ls (v :: st) M bc bs Φ) : Ev l G d y pc ls (.ref a :: st) M bc bs Φ := by
  intro p e s m args below meth c mc ms ad0 n0 H locs cells slots ad lsA F X0
  obtain ⟨x1, x2, x3, x4, x5, x6, x7, x8, x9⟩ := id X0
  obtain ⟨hb0, ha0, ha1⟩ := f_O_bd _ hZ
  have hb : bdL 100 [v] := bd_of hb0
  have K := kk p e s m args below meth c mc ms ad0 n0 H locs cells slots ad lsA F ⟨x1, x2, x3, x4, x5, x6, (fun a ha => (List.mem_cons.mp ha).elim (fun e => Nat.lt_of_lt_of_le (hb a (by rw [e]; exact List.mem_cons_self)) x3.2.2.1) (bd_t x7 a)), x8, x9⟩
  rw [List.map_cons, m_trf x3 hb] at K
  have hz := (F.2.2.2.2.2.2.2.2.1.2.2.1 _ hZ).kept (m_keepH F)
  obtain ⟨b, rfl⟩ : ∃ b, a = b + 1 := ⟨a - 1, by have : 0 < a := ha0; omega⟩
  have e1 : tr ad (.ref (b + 1)) = .ref (G.2.2.2 (b + 1)) := by
    show Value.ref (ad (b + 1)) = _
    rw [x3.2.2.2.2.2.2.1 _ ha1]
  rw [List.map_cons, e1]
  exact vk_getf F.1 F.2.1 hz x4 F.2.2.2.2.1 (F.2.2.2.2.2.1 _ hl) (fun _ h => h) hd K
/-- an element of a row of before -/
theorem Ev.taldI {a n : Nat} {vs : List Value} {i x : Int32} (hd : decode y.2.1 pc = .ok (.iaload, 1)) (hZ : (.int, a, n, vs) ∈ f_T) (hin : vp_in i n) (hv : vs.getD i.toNatClampNeg .null = .int x) (kk : Ev l G d y (pc + 1) ls (.int x :: st) M bc bs Φ) : Ev l G d y pc ls (.int i :: .ref a :: st) M bc bs Φ := by
  intro p e s m args below meth c mc ms ad0 n0 H locs cells slots ad lsA F X0
  obtain ⟨x1, x2, x3, x4, x5, x6, x7, x8, x9⟩ := id X0
  obtain ⟨⟨ha0, ha1⟩, -⟩ := f_T_bd _ hZ
  have K := kk p e s m args below meth c mc ms ad0 n0 H locs cells slots ad lsA F ⟨x1, x2, x3, x4, x5, x6, bd_i (bd_t (bd_t x7)), x8, x9⟩
  obtain ⟨cell, h1, h2, h3, h4, h5, h6, -⟩ := ((F.2.2.2.2.2.2.2.2.1.2.2.2.1 _ hZ).kept (m_keepH F)).kept x4.2.1
  obtain ⟨b, rfl⟩ : ∃ b, a = b + 1 := ⟨a - 1, by have : 0 < a := ha0; omega⟩
  have e1 : tr ad (.ref (b + 1)) = .ref (G.2.2.2 (b + 1)) := by
    show Value.ref (ad (b + 1)) = _
    rw [x3.2.2.2.2.2.2.1 _ ha1]
  have hlt : i.toNatClampNeg < n := Nat.lt_of_not_le fun q => hin (Or.inr q)
  rw [List.map_cons, List.map_cons, e1]
  refine W.iald F.1 F.2.1 h1 h2 h3 (fun q => q.elim (fun q => hin (Or.inl q)) (fun q => hin (Or.inr (Nat.le_trans h4 q)))) (v := .int x) ?_ rfl rfl hd K
  have h7 := h6 i.toNatClampNeg hlt
  dsimp only at h7
  rw [h7, hv]
  rfl
theorem Ev.taldB {a n : Nat} {vs : List Value} {i x : Int32} (hd : decode y.2.1 pc = .ok (.baload, 1)) (hZ : (.byte, a, n, vs) ∈ f_T) (hin : vp_in i n) (hv : vs.getD i.toNatClampNeg .null = .int x) (kk : Ev l G d y (pc + 1) ls (.int x :: st) M bc bs Φ) : Ev l G d y pc ls (.int i :: .ref a :: st) M bc bs Φ := by
  intro p e s m args below meth c mc ms ad0 n0 H locs cells slots ad lsA F X0
  obtain ⟨x1, x2, x3, x4, x5, x6, x7, x8, x9⟩ := id X0
  obtain ⟨⟨ha0, ha1⟩, -⟩ := f_T_bd _ hZ
  have K := kk p e s m args below meth c mc ms ad0 n0 H locs cells slots ad lsA F ⟨x1, x2, x3, x4, x5, x6, bd_i (bd_t (bd_t x7)), x8, x9⟩
  obtain ⟨cell, h1, h2, h3, h4, h5, h6, -⟩ := ((F.2.2.2.2.2.2.2.2.1.2.2.2.1 _ hZ).kept (m_keepH F)).kept x4.2.1
  obtain ⟨b, rfl⟩ : ∃ b, a = b + 1 := ⟨a - 1, by have : 0 < a := ha0; omega⟩
  have e1 : tr ad (.ref (b + 1)) = .ref (G.2.2.2 (b + 1)) := by
    show Value.ref (ad (b + 1)) = _
    rw [x3.2.2.2.2.2.2.1 _ ha1]
  have hlt : i.toNatClampNeg < n := Nat.lt_of_not_le fun q => hin (Or.inr q)
  rw [List.map_cons, List.map_cons, e1]
  refine W.bald F.1 F.2.1 h1 h2 h3 (fun q => q.elim (fun q => hin (Or.inl q)) (fun q => hin (Or.inr (Nat.le_trans h4 q)))) (v := .int x) ?_ rfl rfl hd K
  have h7 := h6 i.toNatClampNeg hlt
  dsimp only at h7
  rw [h7, hv]
  rfl
theorem Ev.taldA {a n x : Nat} {C : String} {vs : List Value} {i : Int32} (hd : decode y.2.1 pc = .ok (.aaload, 1)) (hZ : (.object C, a, n, vs) ∈ f_T) (hin : vp_in i n) (hv : vs.getD i.toNatClampNeg .null = .ref x) (hx : x < 100) (kk : Ev l G d y (pc + 1) ls (.ref x :: st) M bc bs Φ) : Ev l G d y pc ls (.int i :: .ref a :: st) M bc bs Φ := by
  intro p e s m args below meth c mc ms ad0 n0 H locs cells slots ad lsA F X0
  obtain ⟨x1, x2, x3, x4, x5, x6, x7, x8, x9⟩ := id X0
  obtain ⟨⟨ha0, ha1⟩, -⟩ := f_T_bd _ hZ
  have K := kk p e s m args below meth c mc ms ad0 n0 H locs cells slots ad lsA F ⟨x1, x2, x3, x4, x5, x6, bd_r (Nat.lt_of_lt_of_le hx x3.2.2.1) (bd_t (bd_t x7)), x8, x9⟩
  rw [List.map_cons, m_trf x3 (bd_r hx (fun a h => by cases h))] at K
  obtain ⟨cell, h1, h2, h3, h4, h5, h6, -⟩ := ((F.2.2.2.2.2.2.2.2.1.2.2.2.1 _ hZ).kept (m_keepH F)).kept x4.2.1
  obtain ⟨b, rfl⟩ : ∃ b, a = b + 1 := ⟨a - 1, by have : 0 < a := ha0; omega⟩
  have e1 : tr ad (.ref (b + 1)) = .ref (G.2.2.2 (b + 1)) := by
    show Value.ref (ad (b + 1)) = _
    rw [x3.2.2.2.2.2.2.1 _ ha1]
  have hlt : i.toNatClampNeg < n := Nat.lt_of_not_le fun q => hin (Or.inr q)
  rw [List.map_cons, List.map_cons, e1]
  refine W.aald F.1 F.2.1 h1 h2 rfl h3 (fun q => q.elim (fun q => hin (Or.inl q)) (fun q => hin (Or.inr (Nat.le_trans h4 q)))) (v := tr G.2.2.2 (.ref x)) ?_ rfl rfl hd K
  have h7 := h6 i.toNatClampNeg hlt
  dsimp only at h7
  rw [h7, hv]
theorem Ev.tlen {a n : Nat} {ty : FieldType} {vs : List Value} {v : Int32} (hd : decode y.2.1 pc = .ok (.arraylength, 1)) (hZ : (ty, a, n, vs) ∈ f_T) (hv : Int32.ofNat n = v) (kk : Ev l G d y (pc + 1) ls (.int v :: st) M bc bs Φ) : Ev l G d y pc ls (.ref a :: st) M bc bs Φ := by
  intro p e s m args below meth c mc ms ad0 n0 H locs cells slots ad lsA F X0
  obtain ⟨x1, x2, x3, x4, x5, x6, x7, x8, x9⟩ := id X0
  obtain ⟨⟨ha0, ha1⟩, -⟩ := f_T_bd _ hZ
  have K := kk p e s m args below meth c mc ms ad0 n0 H locs cells slots ad lsA F ⟨x1, x2, x3, x4, x5, x6, bd_i (bd_t x7), x8, x9⟩
  obtain ⟨cell, h1, h2, h3, h4, h5, h6, -⟩ := ((F.2.2.2.2.2.2.2.2.1.2.2.2.1 _ hZ).kept (m_keepH F)).kept x4.2.1
  obtain ⟨b, rfl⟩ : ∃ b, a = b + 1 := ⟨a - 1, by have : 0 < a := ha0; omega⟩
  have e1 : tr ad (.ref (b + 1)) = .ref (G.2.2.2 (b + 1)) := by
    show Value.ref (ad (b + 1)) = _
    rw [x3.2.2.2.2.2.2.1 _ ha1]
  rw [List.map_cons, e1]
  exact W.alen F.1 F.2.1 h1 h2 (h5.trans hv) rfl rfl hd K
/-- two references, by their names: of constants WORDS, and of cells that were made -/
theorem m_same {ad : Nat → Nat} {H : Heap} {s : State} (h : RelE G M ad H) (hF : FF G s) {a b : Nat} (ha : (1 ≤ a ∧ a ≤ 23)) (hb : (1 ≤ b ∧ b ≤ 23)) : rf_ ad a = rf_ ad b ↔ a = b := by
  constructor
  · intro q
    unfold rf_ at q
    rw [if_neg (by omega), if_neg (by omega), h.2.2.2.2.2.2.1 a (by omega), h.2.2.2.2.2.2.1 b (by omega)] at q
    exact hF.2.2.2.2.1 a b ha.1 ha.2 hb.1 hb.2 (Option.some.inj q)
  · intro q
    rw [q]
theorem Ev.acmp_eq {a b : Nat} {off : Int} (tgt : Nat) (ht : (pc : Int) + off = (tgt : Int)) (hd : decode y.2.1 pc = .ok (.if_acmp .eq off, 3)) (ha : (1 ≤ a ∧ a ≤ 23)) (hb : (1 ≤ b ∧ b ≤ 23)) (kt : a = b → Ev l G d y tgt ls st M bc bs Φ) (kf : ¬ a = b → Ev l G d y (pc + 3) ls st M bc bs Φ) : Ev l G d y pc ls (.ref b :: .ref a :: st) M bc bs Φ := by
  intro p e s m args below meth c mc ms ad0 n0 H locs cells slots ad lsA F X
  obtain ⟨x1, x2, x3, x4, x5, x6, x7, x8, x9⟩ := id X
  have x7' := bd_t (bd_t x7)
  have hi := m_same x3 F.2.2.2.2.2.2.2.2.1.2 ha hb
  rw [List.map_cons, List.map_cons, tr_rf, tr_rf]
  exact lv_acmp_eq F.1 F.2.1 hd ht (fun h => kt (hi.mp h) p e s m args below meth c mc ms ad0 n0 H locs cells slots ad lsA F ⟨x1, x2, x3, x4, x5, x6, x7', x8, x9⟩) (fun h => kf (fun q => h (hi.mpr q)) p e s m args below meth c mc ms ad0 n0 H locs cells slots ad lsA F ⟨x1, x2, x3, x4, x5, x6, x7', x8, x9⟩)
theorem Ev.acmp_ne {a b : Nat} {off : Int} (tgt : Nat) (ht : (pc : Int) + off = (tgt : Int)) (hd : decode y.2.1 pc = .ok (.if_acmp .ne off, 3)) (ha : (1 ≤ a ∧ a ≤ 23)) (hb : (1 ≤ b ∧ b ≤ 23)) (kt : ¬ a = b → Ev l G d y tgt ls st M bc bs Φ) (kf : a = b → Ev l G d y (pc + 3) ls st M bc bs Φ) : Ev l G d y pc ls (.ref b :: .ref a :: st) M bc bs Φ := by
  intro p e s m args below meth c mc ms ad0 n0 H locs cells slots ad lsA F X
  obtain ⟨x1, x2, x3, x4, x5, x6, x7, x8, x9⟩ := id X
  have x7' := bd_t (bd_t x7)
  have hi := m_same x3 F.2.2.2.2.2.2.2.2.1.2 ha hb
  rw [List.map_cons, List.map_cons, tr_rf, tr_rf]
  exact lv_acmp_ne F.1 F.2.1 hd ht (fun h => kt (fun q => h (hi.mpr q)) p e s m args below meth c mc ms ad0 n0 H locs cells slots ad lsA F ⟨x1, x2, x3, x4, x5, x6, x7', x8, x9⟩) (fun h => kf (hi.mp h) p e s m args below meth c mc ms ad0 n0 H locs cells slots ad lsA F ⟨x1, x2, x3, x4, x5, x6, x7', x8, x9⟩)
/-- a made object of the class ci into a row of that class -/
theorem Ev.aast {a t t0 n ci v : Nat} {r : vw_C} {i : Int32} (hd : decode y.2.1 pc = .ok (.aastore, 1)) (hs : m_sh M a = (t, n)) (ht : 22 < t ∧ t < 99) (hC : ∀ cA, (kTys cA)[t0]? = some (cA t, .object r.1)) (hr : vwCl[ci]? = some r) (hci : ci < 12) (hsv : (m_sh M v).1 = ci) (hin : vp_in i n) (kk : Ev l G d y (pc + 1) ls st (m_sr M a i.toNatClampNeg v) bc bs Φ) : Ev l G d y pc ls (.ref v :: .int i :: .ref a :: st) M bc bs Φ := by
  intro p e s m args below meth c mc ms ad0 n0 H locs cells slots ad lsA F X0
  obtain ⟨x1, x2, x3, x4, x5, x6, x7, x8, x9⟩ := id X0
  obtain ⟨o1, o2⟩ := m_own x3 (a := a) (by rw [hs]; show t ≠ 99; omega)
  obtain ⟨v1, v2⟩ := m_own x3 (a := v) (by rw [hsv]; omega)
  have hw := m_ws_at G.2.1 ad M ⟨o1, o2⟩
  rw [m_cell_R G.2.1 ad M hs ht.1] at hw
  have hwv := m_ws_at G.2.1 ad M ⟨v1, v2⟩
  rw [m_cell_O G.2.1 ad M hsv hci] at hwv
  obtain ⟨b, rfl⟩ : ∃ b, a = b + 1 := ⟨a - 1, by omega⟩
  obtain ⟨u, rfl⟩ : ∃ u, v = u + 1 := ⟨v - 1, by omega⟩
  refine va_astq (D := G.1) (cl := vwCl) F.1 F.2.1 F.2.2.2.2.2.2.2.2.1.1 x3.1 x3.2.1 x4 (b + 1 - 100) t0 (u + 1 - 100) ci hw (hC G.2.1) hwv hr hin hd fun H1 locs1 p1 p2 p3 => ?_
  have hR : RelE G (m_sr M (b + 1) i.toNatClampNeg (u + 1)) ad H1 := m_stored x3 ⟨o1, o2⟩ rfl (fun _ => rfl) (fun q j => by
      rw [m_r_sr, m_nx_sr]
      split
      · exact v2
      · exact x3.2.2.2.1 q j) (fun q hq => m_cell_sr G.2.1 ad M (b + 1) _ _ hq) (by
      rw [m_cell_R G.2.1 ad (m_sr M (b + 1) i.toNatClampNeg (u + 1)) (t := t) (n := n) hs ht.1]
      congr 7
      funext j
      by_cases h : j = i.toNatClampNeg
      · subst h
        rw [m_r_sr, if_pos ⟨rfl, rfl⟩]
        show some (ad (u + 1)) = if _ then _ else _
        rw [if_pos rfl]
      · rw [m_r_sr, if_neg (fun q => h q.2)]
        show _ = if _ then _ else _
        rw [if_neg h]) F.2.2.2.2.2.2.2.2.2.2 p1 p2 p3
  exact kk p e s m args below meth c mc ms ad0 n0 H1 locs1 cells slots ad lsA F ⟨x1, x2, hR, p3, x5, x6, bd_t (bd_t (bd_t x7)), x8, x9⟩
end R6
end
section
/-! ===== rules: throws, a word into a row of words, rows of rows, a copy ===== -/
theorem ot_good {w : Cond} (h : goodWord w = true) : vx_ot w = true := by
  unfold vx_ot
  rw [h, Bool.or_true]
theorem as_self (vm : Vm) (c : ClassId) : vm.assignable c c = true := by
  show vm.assignableAux _ c c = true
  unfold Vm.assignableAux
  simp
section R7
variable {l : Launch} {G : Gx} {d : Nat} {y : MR} {pc : Nat} {ls st : List Value} {M : Mm} {bc bs : Nat} {Φ : OutV → Mm → Prop}
/-- 'throw new X(text)' out of the method -/
theorem Ev.throwS {cls text : String} {ik is ic : Nat} (hl : l.stackTraces = false) (hcls : Bundle.fit cls = true)
    (hk : Cond.classLink y.1.cls ik cls ∈ lwg) (hini : Cond.initialized cls ∈ lwg) (hstr : (y.1.cls, is, text) ∈ f_R) (hat : (vx_atS y.1.cls ic cls ["java/lang/RuntimeException", "java/lang/Exception"]).all (fun w => (lwg.contains w || lwx.contains w) && vx_ot w) = true)
    (d0 : decode y.2.1 pc = .ok (.new ik, 3)) (d3 : decode y.2.1 (pc + 3) = .ok (.dup, 1)) (d4 : (decode y.2.1 (pc + 4) = .ok (.ldc is, 2) ∧ decode y.2.1 (pc + 6) = .ok (.invokespecial ic, 3) ∧ decode y.2.1 (pc + 9) = .ok (.athrow, 1)) ∨ (decode y.2.1 (pc + 4) = .ok (.ldc_w is, 3) ∧ decode y.2.1 (pc + 7) = .ok (.invokespecial ic, 3) ∧ decode y.2.1 (pc + 10) = .ok (.athrow, 1)))
    (hst : (st.map fun v => v.category).sum ≤ 8) (hd6 : 6 ≤ d) (hbc : 1 ≤ bc) (hbs : 6 ≤ bs) (hq : Φ (.inr cls) M) : Ev l G d y pc ls st M bc bs Φ := by
  intro p e s m args below meth c mc ms ad0 n0 H locs cells slots ad lsA F X0
  obtain ⟨x1, x2, x3, x4, x5, x6, x7, x8, x9⟩ := id X0
  have hin : ∀ w ∈ vx_atS y.1.cls ic cls ["java/lang/RuntimeException", "java/lang/Exception"], w ∈ lwg ∨ w ∈ lwx := fun w hw => by
    have h := List.all_eq_true.mp hat w hw
    rw [Bool.and_eq_true, Bool.or_eq_true] at h
    exact h.1.imp List.contains_iff_mem.mp List.contains_iff_mem.mp
  have hot : ∀ w ∈ vx_atS y.1.cls ic cls ["java/lang/RuntimeException", "java/lang/Exception"], vx_ot w = true := fun w hw => by
    have h := List.all_eq_true.mp hat w hw
    rw [Bool.and_eq_true] at h
    exact h.2
  have hat' : ∀ w ∈ vx_atS y.1.cls ic cls ["java/lang/RuntimeException", "java/lang/Exception"], w.before args s = true := fun w hw => by
    rcases hin w hw with h | h
    · exact F.2.2.2.2.2.1 w h
    · have h1 : w.before #[] s = true := F.2.2.2.2.2.2.2.2.1.2.2.2.2.2.2.2.2.2 w h
      exact vx_ot_at (State.WarmedH.refl s) rfl (hot w hw) h1
  have hgood : ∀ w ∈ Cond.classLink y.1.cls ik cls :: Cond.initialized cls :: vx_atS y.1.cls ic cls ["java/lang/RuntimeException", "java/lang/Exception"], vx_ot w = true := fun w hw => by
    rcases List.mem_cons.mp hw with e | hw
    · rw [e]; exact ot_good (List.mem_filter.mp hk).2
    · rcases List.mem_cons.mp hw with e | hw
      · rw [e]; exact ot_good (List.mem_filter.mp hini).2
      · exact hot w hw
  obtain ⟨sa, hsa⟩ := F.2.2.2.2.2.2.2.2.1.2.2.2.2.2.2.1 _ hstr
  have hU := F.2.2.2.2.2.2.2.2.1.2.2.2.2.2.2.2.1.kept (m_keepH F)
  have hN := F.2.2.2.2.2.2.2.2.1.2.2.2.2.2.2.2.2.1.kept (m_keepH F)
  have hx : ∀ t : State, s.vm.Alike t.vm → H.size ≤ t.heap.size → (∀ q : Nat, q < H.size → t.heap[q]? = H[q]?) → XcO G ad0 n0 Φ cls s t := fun t _ h1 h2 => by
    refine ⟨M, ad, hq, x8, x9, ⟨x3.1.kept (fun k q hk => h2 q.1 ((x3.1 k q hk).lt)), x3.2.1, x3.2.2.1, x3.2.2.2.1, Nat.le_trans x3.2.2.2.2.1 h1, fun q hq => ?_, x3.2.2.2.2.2.2.1, x3.2.2.2.2.2.2.2⟩, Nat.le_trans x4.1 h1⟩
    rw [h2 q (Nat.lt_of_lt_of_le hq x3.2.2.2.2.1)]
    exact x3.2.2.2.2.2.1 q hq
  have hsum := m_sum (ad := ad) hst
  have hlen : (["java/lang/RuntimeException", "java/lang/Exception"] : List String).length = 2 := rfl
  rcases d4 with ⟨e1, e2, e3⟩ | ⟨e1, e2, e3⟩
  · exact vx_throwS F.1 F.2.1 hl F.2.2.2.2.1 hcls (by decide +kernel) (F.2.2.2.2.2.1 _ hk) (F.2.2.2.2.2.1 _ hini) hsa hat' hgood hU hN x4 (x5.1.trans F.2.2.2.1.symm) d0 d3 e1 e2 e3 (fun x hx => (F.2.2.2.2.2.2.2.2.2.1 x hx).elim) (show 5 < d by omega) (show _ ≤ 64 * d by rw [hlen]; omega) (show cells + 1 ≤ mc by omega) (show slots + 6 ≤ ms by omega) F.2.2.2.2.2.2.1 hx (fun z hz => x4.2.2 z hz) (by omega) (by omega)
  · exact vx_throwSW F.1 F.2.1 hl F.2.2.2.2.1 hcls (by decide +kernel) (F.2.2.2.2.2.1 _ hk) (F.2.2.2.2.2.1 _ hini) hsa hat' hgood hU hN x4 (x5.1.trans F.2.2.2.1.symm) d0 d3 e1 e2 e3 (fun x hx => (F.2.2.2.2.2.2.2.2.2.1 x hx).elim) (show 5 < d by omega) (show _ ≤ 64 * d by rw [hlen]; omega) (show cells + 1 ≤ mc by omega) (show slots + 6 ≤ ms by omega) F.2.2.2.2.2.2.1 hx (fun z hz => x4.2.2 z hz) (by omega) (by omega)
/-- a constant WORD into a row of WORDS -/
theorem Ev.aastW {a n v : Nat} {i : Int32} (hd : decode y.2.1 pc = .ok (.aastore, 1)) (hs : m_sh M a = (32, n)) (hv : (v, "BowingRow$Word") ∈ f_C) (hv1 : 1 ≤ v ∧ v ≤ 23) (hin : vp_in i n) (kk : Ev l G d y (pc + 1) ls st (m_sr M a i.toNatClampNeg v) bc bs Φ) : Ev l G d y pc ls (.ref v :: .int i :: .ref a :: st) M bc bs Φ := by
  intro p e s m args below meth c mc ms ad0 n0 H locs cells slots ad lsA F X0
  obtain ⟨x1, x2, x3, x4, x5, x6, x7, x8, x9⟩ := id X0
  obtain ⟨o1, o2⟩ := m_own x3 (a := a) (by rw [hs]; simp)
  have hw := m_ws_at G.2.1 ad M ⟨o1, o2⟩
  rw [m_cell_R G.2.1 ad M hs (by decide)] at hw
  obtain ⟨b, rfl⟩ : ∃ b, a = b + 1 := ⟨a - 1, by omega⟩
  obtain ⟨u, rfl⟩ : ∃ u, v = u + 1 := ⟨v - 1, by omega⟩
  obtain ⟨cv, g1, g2, g3, g4⟩ := ((F.2.2.2.2.2.2.2.2.1.2.2.2.2.1 _ hv).kept (m_keepH F)).kept x4.2.1
  obtain ⟨kA, comp, k1, k2, k3, -⟩ := (F.2.2.2.2.2.2.2.2.1.1.2 5 (G.2.1 32, .object "BowingRow$Word") rfl).2
  have hcomp : comp = cv.cls := Option.some.inj (k3.symm.trans g3)
  obtain ⟨kE, hkE, -⟩ := Vm.findClass_spec k3
  have hlt : i.toNatClampNeg < n := Nat.lt_of_not_le fun q => hin (Or.inr q)
  have h0 : ¬ i < 0 := fun q => hin (Or.inl q)
  have had : ad (u + 1) = G.2.2.2 (u + 1) := x3.2.2.2.2.2.2.1 _ (by omega)
  have hcast : s.vm.assignable cv.cls comp = true := by
    rw [hcomp]
    exact as_self _ _
  have hst : ((Value.ref (u + 1) :: Value.int i :: Value.ref (b + 1) :: st).map (tr ad)) = Value.ref (G.2.2.2 (u + 1)) :: Value.int i :: Value.ref (ad (b + 1)) :: st.map (tr ad) := by
    rw [← had]
    rfl
  rw [hst]
  refine W.aast F.1 F.2.1 (x3.1 _ _ hw) (fun q h => by cases h) (fun h => by cases h) k1 k2 rfl hkE ⟨h0, by show _ < (arrV _ _ _).slots.size; rw [arrV_size]; exact hlt⟩ g1 (fun q h => by rw [h] at g2; cases g2) (by rw [← hcomp]; exact hkE) hcast rfl rfl hd fun H1 e1 z oq => ?_
  have p1 := x3.1.set (H1 := H1) (e := .inl (G.2.1 32, n, .inr (.inr (.inr (.inr (va_up (fun j => rf_ ad (m_r M (b + 1) j)) i.toNatClampNeg (some (ad (u + 1))))))))) x3.2.1 hw (by
    show H1[ad (b + 1)]? = some (vp_cell _ _)
    rw [e1, vp_cell_q, vp_cell_q, arrV_store, ← had]
    congr 2
    funext q
    by_cases hq : q = i.toNatClampNeg
    · subst hq
      simp [updV, va_up, va_rf]
    · simp [updV, va_up, hq]) oq
  have p2 := x3.2.1.set (e := .inl (G.2.1 32, n, .inr (.inr (.inr (.inr (va_up (fun j => rf_ ad (m_r M (b + 1) j)) i.toNatClampNeg (some (ad (u + 1))))))))) hw
  have p3 := x4.put (k := i.toNatClampNeg) z oq (x3.2.1.2 _ _ hw)
  have hR : RelE G (m_sr M (b + 1) i.toNatClampNeg (u + 1)) ad H1 := m_stored x3 ⟨o1, o2⟩ rfl (fun _ => rfl) (fun q j => by
      rw [m_r_sr, m_nx_sr]
      split
      · have := x3.2.2.1; omega
      · exact x3.2.2.2.1 q j) (fun q hq => m_cell_sr G.2.1 ad M (b + 1) _ _ hq) (by
      rw [m_cell_R G.2.1 ad (m_sr M (b + 1) i.toNatClampNeg (u + 1)) (t := 32) (n := n) hs (by decide)]
      congr 7
      funext j
      by_cases h : j = i.toNatClampNeg
      · subst h
        rw [m_r_sr, if_pos ⟨rfl, rfl⟩]
        show some (ad (u + 1)) = if _ then _ else _
        rw [if_pos rfl]
      · rw [m_r_sr, if_neg (fun q => h q.2)]
        show _ = if _ then _ else _
        rw [if_neg h]) F.2.2.2.2.2.2.2.2.2.2 p1 p2 p3
  exact kk p e s m args below meth c mc ms ad0 n0 H1 _ cells slots ad lsA F ⟨x1, x2, hR, p3, x5, x6, bd_t (bd_t (bd_t x7)), x8, x9⟩
/-- the memory behind System.arraycopy of ints -/
def m_cpy (M : Mm) (a b sp dp n : Nat) : Mm := (fun q j => if q = b then va_cpy (M.1 a) (M.1 b) sp dp n j else M.1 q j, M.2)
theorem Ev.copyI {idx a b na nb : Nat} {sp dp n : Int32} (hd : decode y.2.1 pc = .ok (.invokestatic idx, 3)) (hl : Cond.methodLink y.1.cls idx arraycopyName ∈ lwg) (hnat : Cond.native arraycopyName ∈ lwg) (hstat : Cond.static arraycopyName ∈ lwg) (hini : Cond.initialized "java/lang/System" ∈ lwg) (hsa : m_sh M a = (20, na)) (hsb : m_sh M b = (20, nb)) (h1 : ¬ sp < 0) (h2 : ¬ dp < 0) (h3 : ¬ n < 0) (h4 : sp.toNatClampNeg + n.toNatClampNeg ≤ na) (h5 : dp.toNatClampNeg + n.toNatClampNeg ≤ nb) (hst : (st.map fun v => v.category).sum ≤ 8) (hd1 : 1 ≤ d)
    (kk : Ev l G d y (pc + 3) ls st (m_cpy M a b sp.toNatClampNeg dp.toNatClampNeg n.toNatClampNeg) bc bs Φ) : Ev l G d y pc ls (.int n :: .int dp :: .ref b :: .int sp :: .ref a :: st) M bc bs Φ := by
  intro p e s m args below meth c mc ms ad0 n0 H locs cells slots ad lsA F X0
  obtain ⟨x1, x2, x3, x4, x5, x6, x7, x8, x9⟩ := id X0
  obtain ⟨o1, o2⟩ := m_own x3 (a := a) (by rw [hsa]; simp)
  obtain ⟨q1, q2⟩ := m_own x3 (a := b) (by rw [hsb]; simp)
  have hw := m_ws_at G.2.1 ad M ⟨o1, o2⟩
  rw [m_cell_I G.2.1 ad M hsa (by decide) (by decide)] at hw
  have hwb := m_ws_at G.2.1 ad M ⟨q1, q2⟩
  rw [m_cell_I G.2.1 ad M hsb (by decide) (by decide)] at hwb
  obtain ⟨a', rfl⟩ : ∃ b, a = b + 1 := ⟨a - 1, by omega⟩
  obtain ⟨b', rfl⟩ : ∃ u, b = u + 1 := ⟨b - 1, by omega⟩
  have hsum := m_sum (ad := ad) hst
  refine va_copyi (D := G.1) (cl := vwCl) F.1 F.2.1 (F.2.2.2.1.trans x5.1.symm) F.2.2.2.2.1 (F.2.2.2.2.2.1 _ hl) (F.2.2.2.2.2.1 _ hnat) (F.2.2.2.2.2.1 _ hstat) (F.2.2.2.2.2.1 _ hini) F.2.2.2.2.2.2.2.2.1.1 x3.1 x3.2.1 x4 (a' + 1 - 100) (b' + 1 - 100) 0 0 hw hwb rfl rfl rfl h1 h2 h3 h4 h5 (fun _ _ => rfl) hd1 (show _ ≤ 64 * d by
    have : nativeFrameWords "java/lang/System" "arraycopy" 5 ≤ 40 := by decide +kernel
    omega) hd fun H1 locs1 p1 p2 p3 => ?_
  have hR : RelE G (m_cpy M (a' + 1) (b' + 1) sp.toNatClampNeg dp.toNatClampNeg n.toNatClampNeg) ad H1 := m_stored x3 ⟨q1, q2⟩ rfl (fun _ => rfl) x3.2.2.2.1 (fun q hq => by
      have e1 : m_i (m_cpy M (a' + 1) (b' + 1) sp.toNatClampNeg dp.toNatClampNeg n.toNatClampNeg) q = m_i M q := funext fun j => by
        show (if q = b' + 1 then _ else _) = _
        rw [if_neg hq]
        rfl
      have e2 : ∀ ci, m_fv ad (m_cpy M (a' + 1) (b' + 1) sp.toNatClampNeg dp.toNatClampNeg n.toNatClampNeg) q ci = m_fv ad M q ci := fun ci => funext fun j => by
        unfold m_fv
        rw [e1]
        rfl
      unfold m_cell
      rw [e1, e2]
      rfl) (by
      rw [m_cell_I G.2.1 ad (m_cpy M (a' + 1) (b' + 1) sp.toNatClampNeg dp.toNatClampNeg n.toNatClampNeg) (t := 20) (n := nb) hsb (by decide) (by decide)]
      congr 4
      funext j
      show (if b' + 1 = b' + 1 then _ else _) = _
      rw [if_pos rfl]
      rfl) F.2.2.2.2.2.2.2.2.2.2 p1 p2 p3
  exact kk p e s m args below meth c mc ms ad0 n0 H1 locs1 cells slots ad lsA F ⟨x1, x2, hR, p3, x5, x6, bd_t (bd_t (bd_t (bd_t (bd_t x7)))), x8, x9⟩
end R7
end
section
/-! ===== a throw whose constructor calls its superclass's by another entry of the pool than 7 (follows the library's law ctorThrowS, over its chain law chainSX) ===== -/
section TX
variable {p : Program} {l : Launch} {e : Env} {R : Room} {s : State} {m₀ : MethodId} {args : Array Value} {below : List Frame} {meth : Method} {c : Code} {W : State} {locs : List Loc} {cells slots : Nat}
set_option maxHeartbeats 4000000 in
theorem x_ctorThrow (X : Stand p l e R s m₀ args below meth c W locs cells slots) (hexec : p.tables.exec = Jvm.exec) (htr : e.platform.stackTraces = false) {own cls : String} {names : List String} {ic ix : Nat} {rx : ByteArray} (x0 : decode rx 0 = .ok (.aload_n 0, 1)) (x1 : decode rx 1 = .ok (.aload_n 1, 1)) (x2 : decode rx 2 = .ok (.invokespecial ix, 3)) (x5 : decode rx 5 = .ok (.return_, 1))
    (hown : s.vm.findClass own = some m₀.cls) (hcls : Bundle.fit cls = true) (hnames : ∀ n ∈ names, Bundle.fit n = true)
    (h : ∀ a ∈ Bundle.ownAtomsX own ic cls ix rx names, a.before args s = true)
    (hlocs : ∀ x ∈ locs, ∀ cell, s.heap[x.base]? = some cell → cell.vm.isStatics = false)
    {a : Addr} {cX : ClassId} {kX : Class} (hfoundX : s.vm.findClass cls = some cX) (hkX : s.vm.classes[cX]? = some kX) (hcell : W.heap[a]? = some (freshCell cX kX)) (hnew : s.heap.size ≤ a)
    {msg : Value} (hmsg : msg.isRef = true)
    {g : JFrame} (hg : g.method = m₀) (hsize : g.locals.size = c.maxLocals) (hlocked : g.locked = none) (hentered : g.entered = []) {rest : List Value} (hstack : g.stack = msg :: .ref a :: .ref a :: rest)
    (hd6 : decode c.code g.pc = .ok (.invokespecial ic, 3)) (hd9 : decode c.code (g.pc + 3) = .ok (.athrow, 1)) (hout : ∀ x ∈ c.exceptionTable.toList, covers x (g.pc + 3) = false)
    (hRframes : names.length + 3 < R.frames) (hRlocals : 2 * g.monitorRoom + ((Value.ref a :: rest).map fun v => v.category).sum + (13 * (names.length + 1) + 42) ≤ R.locals) (hlocks : meth.locks = false := by first | assumption | exact BodyLoose.notSynchronized (by assumption) | exact Body.notSynchronized (by assumption)) :
    ∃ U : State, Steps p.tables e below (W.setTop g) U ∧ U.status = .running ∧ Ended U below (.threw a) ∧ s.WarmedH U.vm ∧ s.sameButNew ({ U with vm := s.vm } : State) locs cells slots ∧
      ∃ ce, U.heap[a]? = some ce ∧ s.vm.findClass cls = some ce.cls ∧ ce.vm = .none := by
  have howns : e.platform.frameOwnsMonitors = true := by rw [X.admits.platform]
  have hfin : e.platform.finalization = false := by rw [X.admits.platform]
  have hpl : e.platform.magicAccessors = ({} : Platform).magicAccessors := by rw [X.admits.platform]
  have a' : ∀ x, x ∈ Bundle.ownAtomsX own ic cls ix rx names → x.holds args s none s [] = true := fun x hx => h x hx
  obtain ⟨T, Z0, L, -, Y⟩ := ThrowableC.of_atoms (args := args) howns hfin hpl (fun x hx => h x (by simp [Bundle.ownAtomsX, hx]))
  obtain ⟨Z, M, LZ, LM, hnZ⟩ := Init0T.ofS_atoms (args := args) hpl L Y (fun x hx => h x (by simp [Bundle.ownAtomsX, hx]))
  obtain ⟨P1, Ps, hlen, L1, hL, hP1m, hlink1, hlink⟩ := Bundle.chainSX (args := args) hpl hnZ x0 x1 x2 x5 names cls hcls hnames (fun x hx => h x (by simp [Bundle.ownAtomsX, hx]))
  have hfound : s.vm.findClass cls = some P1.m.cls := findClass_of_methodNamed hP1m
  cases Option.some.inj (hfoundX.symm.trans hfound)
  obtain ⟨c1, kX', hc1, hk, hord, -, -, hn6⟩ := Cond.instantiable_spec (a' (.instantiable cls 6) (by simp [Bundle.ownAtomsX]))
  cases Option.some.inj (hc1.symm.trans hfound)
  cases Option.some.inj (hkX.symm.trans hk)
  have hsel0 : selectMethod e.platform s.vm P1.m.cls T.fill0 = .method T.fill0 := by
    obtain ⟨c2, r2, m2, q1, q2, q3, q4, -⟩ := Cond.selects_spec (a' (.selects cls Bundle.tFill0 Bundle.tFill0) (by simp [Bundle.ownAtomsX]))
    cases Option.some.inj (q1.symm.trans hfound)
    cases Option.some.inj (q2.symm.trans (State.methodFound?_of_named Y.fill0 (by decide)))
    cases Option.some.inj (q3.symm.trans Y.fill0)
    rw [Launch.admits_selectMethod X.admits]; exact q4
  have hselF : selectMethod e.platform s.vm P1.m.cls T.fill = .method T.fill := by
    obtain ⟨c2, r2, m2, q1, q2, q3, q4, -⟩ := Cond.selects_spec (a' (.selects cls Bundle.tFill Bundle.tFill) (by simp [Bundle.ownAtomsX]))
    cases Option.some.inj (q1.symm.trans hfound)
    cases Option.some.inj (q2.symm.trans (State.methodFound?_of_named Y.fill (by decide)))
    cases Option.some.inj (q3.symm.trans Y.fill)
    rw [Launch.admits_selectMethod X.admits]; exact q4
  obtain ⟨cellS0, hcS0, hiss⟩ := Y.statics
  obtain ⟨u0, hu0⟩ := Cond.staticRefV Y.unassigned L.unassignedStatic L.statics hcS0 hiss (a' (.isRef (.static Bundle.tN "UNASSIGNED_STACK" Bundle.steD)) (by simp [Bundle.ownAtomsX]))
  obtain ⟨sen, hsen⟩ := Cond.staticRefV Y.sentinel L.sentinelStatic L.statics hcS0 hiss (a' (.isRef (.static Bundle.tN "SUPPRESSED_SENTINEL" Bundle.listD)) (by simp [Bundle.ownAtomsX]))
  obtain ⟨ci198, i198, fB, hk198, hg198, ha198, hsB, -, hnB, htB, hffB⟩ := Cond.ownField (t := .object "java/lang/Object") Y.found L.cls (by decide +kernel) (a' (.fieldLink Bundle.tN 198 Bundle.tN "backtrace" "Ljava/lang/Object;") (by simp [Bundle.ownAtomsX])) (a' (.lays Bundle.tN Bundle.tN "backtrace" "Ljava/lang/Object;") (by simp [Bundle.ownAtomsX])) e.platform hpl
  obtain ⟨cellS, hcS', heS, -, hkeep⟩ := X.same.2.2.2.2.2 T.aS cellS0 hcS0
  have hcellS : W.heap[T.aS]? = some cellS := hcS'
  have hout' : ∀ i, (⟨T.aS, i⟩ : Loc) ∉ locs := fun i hmem => by
    have := hlocs _ hmem cellS0 hcS0
    rw [hiss] at this; cases this
  have hknownS : cellS.vm ≠ .unknown := by
    rw [heS]; intro hu
    rw [show cellS0.vm = .unknown from hu] at hiss
    cases hiss
  have hneS : T.aS ≠ a := Nat.ne_of_lt (Nat.lt_of_lt_of_le (Array.getElem?_eq_some_iff.mp hcS0).1 hnew)
  obtain ⟨iM, hffM⟩ := Y.msg
  obtain ⟨tyC, dC, hdC, hdnC⟩ := Cond.laysAt hfound hk Y.cause (a' (.lays cls Bundle.tN "cause" "Ljava/lang/Throwable;") (by simp [Bundle.ownAtomsX]))
  obtain ⟨tyS, dS, hdS, hdnS⟩ := Cond.laysAt hfound hk Y.stack (a' (.lays cls Bundle.tN "stackTrace" Bundle.steD) (by simp [Bundle.ownAtomsX]))
  obtain ⟨tyP, dP, hdP, hdnP⟩ := Cond.laysAt hfound hk Y.supp (a' (.lays cls Bundle.tN "suppressedExceptions" Bundle.listD) (by simp [Bundle.ownAtomsX]))
  obtain ⟨tyM, dM, hdM, hdnM⟩ := Cond.laysAt hfound hk hffM (a' (.lays cls Bundle.tN "detailMessage" "Ljava/lang/String;") (by simp [Bundle.ownAtomsX]))
  obtain ⟨tyB, dB, hdB, hdnB⟩ := Cond.laysAt hfound hk hffB (a' (.lays cls Bundle.tN "backtrace" "Ljava/lang/Object;") (by simp [Bundle.ownAtomsX]))
  have bC := Cond.laysApart hdB hdC hdnB hdnC (by rw [hnB, Y.causeName]; decide)
  have bS := Cond.laysApart hdB hdS hdnB hdnS (by rw [hnB, Y.stackName]; decide)
  have bP := Cond.laysApart hdB hdP hdnB hdnP (by rw [hnB, Y.suppName]; decide)
  have hskip : SkipFacts T e.platform s (fun u => u) u0 ((preparedCellV T.toThrowableT (freshCell P1.m.cls kX) a u0 sen).withEntry W.cur) :=
    ⟨{ ci198 := ci198, i198 := i198, fBack := fB }, ⟨hk198, hg198, ha198, hsB⟩, by
      have := fresh_default (c := P1.m.cls) tyB
      rw [htB] at this
      simpa [preparedCellV, Cell.setSlot, Cell.withEntry, Array.getElem?_setIfInBounds, bC, bS, bP, bC.symm, bS.symm, bP.symm, defaultValue] using this, fun _ _ => rfl⟩
  obtain ⟨tm, methC, cdC, kC, vm₁, hnC, -, -, -, -, -, -, -, hW₁, st1⟩ := Steps.initColdS (tb := p.tables) (e := e) (below := below) (s := s) (U := W) X.here hexec X.warmed hpl hown (t := Bundle.initS cls) rfl rfl (Bundle.fit_spec hcls).2
    (a' (.methodLink own ic (Bundle.initS cls)) (by simp [Bundle.ownAtomsX])) (h (.instanceMethod (Bundle.initS cls)) (by cases names <;> simp [Bundle.ownAtomsX, Bundle.chainSAtomsX, Bundle.passSAtoms])) (bytes := rx) (maxL := 2) (h (.code (Bundle.initS cls) rx 2 none) (by cases names <;> simp [Bundle.ownAtomsX, Bundle.chainSAtomsX, Bundle.passSAtoms]))
    (f := g) hg (a := a) (msg := msg) (rest := .ref a :: rest) hstack hd6
  cases Option.some.inj (hnC.symm.trans hP1m)
  have X₁ := X.noted hW₁
  obtain ⟨vm₂, X₂, st2⟩ := X₁.ctorMessageOffV hexec (g := { g with stack := .ref a :: rest }) hg hsize T L Z LZ M LM (P1 :: Ps)
    (fun P hP => by rcases List.mem_cons.mp hP with rfl | hP; exact L1; exact hL P hP) ⟨hlink1, hlink⟩ (u0 := u0) (sen := sen) (self := a) hmsg (cell := freshCell P1.m.cls kX) (cellS := cellS)
    hcell (fun _ => by simp) (by simp) rfl rfl hsel0 hselF hcellS hneS hknownS (by rw [hkeep _ (hout' _)]; exact hu0) (by rw [hkeep _ (hout' _)]; exact hsen)
    (Takes.of_laid hk hord tyC (by rw [Y.causeType]; rfl)) (Takes.of_laid hk hord tyS (by rw [Y.stackType]; exact fits_refV_array _ u0)) (Takes.of_laid hk hord tyP (by rw [Y.suppType]; exact fits_refV_object _ sen))
    (Takes.of_laid hk hord tyM (by rw [Y.msgType]; exact fits_refV_object _ ⟨msg, hmsg⟩)) Y.objLocals hskip htr [] hd6
    (by simp only [List.length_cons, hlen]; omega) (by simp only [List.length_cons, hlen]; exact hRlocals)
  obtain ⟨hwalk, hrun, hended, hWU, hsame⟩ := X₂.athrowLeaves hexec (g := { g with stack := .ref a :: rest, pc := g.pc + 3 }) hg hlocked hentered hout (a := a) (rest := rest) rfl hd9
  obtain ⟨c3, c4, hc3, hc4, hasg⟩ := Cond.castable_spec (a' (.castable cls cls) (by simp [Bundle.ownAtomsX]))
  cases Option.some.inj (hc3.symm.trans hfound)
  cases Option.some.inj (hc4.symm.trans hfound)
  have hlt : a < ((W.setVm vm₁).setVm vm₂).heap.size := (Array.getElem?_eq_some_iff.mp hcell).1
  have hU := heapAt_setCell_self (s := (W.setVm vm₁).setVm vm₂) (plainBareV T.toThrowableT (freshCell P1.m.cls kX) a u0 sen msg) hlt
  have hnM : T.fMsg.name = "detailMessage" := (State.fieldFound?_type hffM (t := .object "java/lang/String") (by decide +kernel)).1
  have nCS := Cond.laysApart hdC hdS hdnC hdnS (by rw [Y.causeName, Y.stackName]; decide)
  have nCP := Cond.laysApart hdC hdP hdnC hdnP (by rw [Y.causeName, Y.suppName]; decide)
  have nCM := Cond.laysApart hdC hdM hdnC hdnM (by rw [Y.causeName, hnM]; decide)
  have nSP := Cond.laysApart hdS hdP hdnS hdnP (by rw [Y.stackName, Y.suppName]; decide)
  have nSM := Cond.laysApart hdS hdM hdnS hdnM (by rw [Y.stackName, hnM]; decide)
  have nPM := Cond.laysApart hdP hdM hdnP hdnM (by rw [Y.suppName, hnM]; decide)
  have lC : T.fCause.slot < kX.instanceTypes.size := (Array.getElem?_eq_some_iff.mp tyC).1
  have lS : T.fStack.slot < kX.instanceTypes.size := (Array.getElem?_eq_some_iff.mp tyS).1
  have lP : T.fSupp.slot < kX.instanceTypes.size := (Array.getElem?_eq_some_iff.mp tyP).1
  have lM : T.fMsg.slot < kX.instanceTypes.size := (Array.getElem?_eq_some_iff.mp tyM).1
  have evU : ∀ o, (Term.static Bundle.tN "UNASSIGNED_STACK" Bundle.steD).eval args s o [] s = some u0.v := by
    intro o
    simp [Term.eval, State.fieldNamed?, Y.unassigned, L.unassignedStatic, L.statics, hcS0, hiss, hu0]
  have evS : ∀ o, (Term.static Bundle.tN "SUPPRESSED_SENTINEL" Bundle.listD).eval args s o [] s = some sen.v := by
    intro o
    simp [Term.eval, State.fieldNamed?, Y.sentinel, L.sentinelStatic, L.statics, hcS0, hiss, hsen]
  refine ⟨_, st1 _ (fun acts => ?_), hrun, hended, hWU, hsame.weaken (fun y hy hlt' => ?_) (Nat.le_refl _) (Nat.le_refl _), _, hU, ?_⟩
  · rw [doInvoke_state]
    exact st2 _ hwalk
  · rcases List.mem_append.mp hy with h1 | h1
    · exact h1
    · exfalso
      have hb : y.base = a := by
        simp only [List.mem_cons, List.not_mem_nil, or_false] at h1
        rcases h1 with rfl | rfl | rfl | rfl | rfl <;> rfl
      rw [hb] at hlt'
      exact Nat.not_lt.mpr hnew hlt'
  · exact ⟨hfound, rfl⟩
end TX
section TY
variable {p : Program} {l : Launch} {e : Env} {R : Room} {s : State} {m : MethodId} {args : Array Value} {below : List Frame} {meth : Method} {c : Code} {H : Heap} {locs : List Loc} {cells slots : Nat} {Q : State → Prop}
variable {mc ms : Nat} {free : Addr → Prop} {A0 A1 : Nat → Prop} {H0 : Heap} {a : Array Value} {ls : Array Slot} {st0 rest : List Value}
variable {Qc : Array Value → State → Outcome → State → Prop} {XC : String → State → State → Prop}
set_option maxHeartbeats 4000000 in
theorem x_throwSW {cc : ByteArray} {pc : Nat} (hexec : p.tables.exec = Jvm.exec) (hb : c.code = cc) (hl : l.stackTraces = false) {own cls text : String} {names : List String} {ik is ic ix mc ms sa : Nat} {rx : ByteArray} (x0 : decode rx 0 = .ok (.aload_n 0, 1)) (x1 : decode rx 1 = .ok (.aload_n 1, 1)) (x2 : decode rx 2 = .ok (.invokespecial ix, 3)) (x5 : decode rx 5 = .ok (.return_, 1)) {A : Nat → Prop}
    (hown : s.vm.findClass own = some m.cls) (hcls : Bundle.fit cls = true) (hnames : ∀ n ∈ names, Bundle.fit n = true)
    (hk : (Cond.classLink own ik cls).before args s = true) (hini : (Cond.initialized cls).before args s = true) (hstr : vk_R own is text sa s) (hat : ∀ w ∈ (Bundle.ownAtomsX own ic cls ix rx names).filter vx_no, w.before args s = true)
    (hgood : ∀ w ∈ Cond.classLink own ik cls :: Cond.initialized cls :: (Bundle.ownAtomsX own ic cls ix rx names).filter vx_no, vx_ot w = true)
    (hU : vx_Zq Bundle.tN "UNASSIGNED_STACK" Bundle.steD A s s.heap) (hN : vx_Zq Bundle.tN "SUPPRESSED_SENTINEL" Bundle.listD A s s.heap) (hS : va_S A s.heap H locs) (hsize : ls.size = c.maxLocals)
    (d0 : decode cc pc = .ok (.new ik, 3)) (d3 : decode cc (pc + 3) = .ok (.dup, 1)) (d4 : decode cc (pc + 4) = .ok (.ldc_w is, 3)) (d7 : decode cc (pc + 7) = .ok (.invokespecial ic, 3)) (d10 : decode cc (pc + 10) = .ok (.athrow, 1))
    (hout : ∀ x ∈ c.exceptionTable.toList, covers x (pc + 10) = false)
    (hRframes : names.length + 3 < R.frames) (hRlocals : (rest.map fun v => v.category).sum + (13 * (names.length + 1) + 43) ≤ R.locals) (hRcells : cells + 1 ≤ R.cells) (hRslots : slots + 6 ≤ R.slots) (hlocks : meth.locks = false)
    (hx : ∀ t : State, s.vm.Alike t.vm → H.size ≤ t.heap.size → (∀ q : Nat, q < H.size → t.heap[q]? = H[q]?) → XC cls s t)
    (hf : ∀ z ∈ locs, free z.base) (hc : cells + 1 ≤ mc) (hs : slots + 6 ≤ ms) :
    W p l e R s m args below meth c H locs cells slots (vx_MQ below Qc XC args s mc ms free) (F0 m pc ls rest) := by
  intro T hT X
  have htr : e.platform.stackTraces = false := (show e.platform.stackTraces = l.stackTraces by rw [X.admits.platform]).trans hl
  have Y := vx_rebase X (R' := { frames := R.frames, locals := R.locals, cells := 1, slots := 6 }) (Nat.le_refl _) (Nat.le_refl _) hRcells hRslots
  obtain ⟨s', hA⟩ : ∃ z, z = (T.setVm s.vm).setFrames (.invoking m args :: below) := ⟨_, rfl⟩
  rw [← hA] at Y
  have hvm : s'.vm = s.vm := by rw [hA]; rfl
  have hhp : s'.heap = H := by rw [hA]; exact hT
  have hW0 : s.WarmedH s'.vm := by rw [hvm]; exact State.WarmedH.refl s
  have hat' : ∀ w ∈ (Bundle.ownAtomsX own ic cls ix rx names).filter vx_no, w.before args s' = true := fun w hw => vx_ot_at hW0 hvm.symm (hgood w (List.mem_cons_of_mem _ (List.mem_cons_of_mem _ hw))) (hat w hw)
  have hk' : (Cond.classLink own ik cls).before args s' = true := vx_ot_at hW0 hvm.symm (hgood _ List.mem_cons_self) hk
  have hini' : (Cond.initialized cls).before args s' = true := vx_ot_at hW0 hvm.symm (hgood _ (List.mem_cons_of_mem _ List.mem_cons_self)) hini
  have hU' : vx_Zq Bundle.tN "UNASSIGNED_STACK" Bundle.steD A s' s'.heap := by rw [hhp]; exact vx_Zq.moved hW0.alike (hU.kept hS.2.1)
  have hN' : vx_Zq Bundle.tN "SUPPRESSED_SENTINEL" Bundle.listD A s' s'.heap := by rw [hhp]; exact vx_Zq.moved hW0.alike (hN.kept hS.2.1)
  have h : ∀ w ∈ Bundle.ownAtomsX own ic cls ix rx names, w.before args s' = true := vx_own hat' (vx_isRefq hU'.1) (vx_isRefq hN'.1) hU'.2.word hN'.2.word
  have hown' : s'.vm.findClass own = some m.cls := by rw [hvm]; exact hown
  have hins : (Cond.instantiable cls 6).before args s' = true := h _ (by simp [Bundle.ownAtomsX])
  obtain ⟨vm₁, cX, kX, hfX, hkX, -, -, X₁, st1⟩ := Y.newCold hexec (own := own) (C := cls) (index := ik) (n := 6) hown' hk' hins hini'
    (g := F0 m pc ls rest) rfl (by rw [hb]; exact d0) (Nat.le_refl _) (Nat.le_refl _)
  generalize hT1 : (T.setVm vm₁).pushCell { cls := cX, slots := kX.instanceTypes.map defaultValue, vm := .none } = T1 at X₁ st1
  have hcat : (Value.ref T.heap.size).category = 1 := rfl
  have hcellA : T1.heap[T.heap.size]? = some (freshCell cX kX) := by rw [← hT1]; exact State.heap_pushCell_size _ _
  have d3' : decode c.code (pc + 3) = .ok (.dup, 1) := by rw [hb]; exact d3
  have d4' : decode c.code (pc + 4) = .ok (.ldc_w is, 3) := by rw [hb]; exact d4
  have hstr' : vk_R own is text sa s' := vk_R.warm hW0 hstr
  obtain ⟨U, hsteps, hrun, hend, hW, hsame, ce, hce, hO⟩ := x_ctorThrow X₁ hexec htr x0 x1 x2 x5 (own := own) (cls := cls) (names := names) (ic := ic) hown' hcls hnames h (fun x hx => nomatch hx) hfX hkX hcellA (by rw [hhp, hT]; exact Nat.le_refl _) (msg := .ref sa) rfl
    (g := { method := m, pc := pc + 7, locals := ls, stack := .ref sa :: .ref T.heap.size :: .ref T.heap.size :: rest, locked := none }) rfl hsize rfl rfl (rest := rest) rfl
    (by rw [hb]; exact d7) (by rw [hb]; exact d10) hout hRframes (by simp only [List.map_cons, List.sum_cons, hcat]; omega) hlocks
  obtain ⟨f1, f2⟩ := vx_frame hsame
  rw [hhp] at f1 f2
  have hWs : s.WarmedH U.vm := State.WarmedH.trans hW0 hW
  have hcl : s.vm.findClass cls = some ce.cls := by
    have h9 := hO.1
    rw [hvm] at h9
    exact h9
  have hall : s.sameButNew ({ U with vm := s.vm } : State) locs mc ms := by
    subst hA
    obtain ⟨e1, e2⟩ := hsame
    rw [State.setFrames_setFrames] at e1
    have h2 : (T.setVm s.vm).sameButNew ({ U with vm := s.vm } : State) [] (0 + 1) (0 + 6) := ⟨e1, e2⟩
    have h3 := X.same.trans h2
    rw [List.append_nil] at h3
    exact h3.mono hc hs
  refine ⟨U, ?_, .threw T.heap.size, hrun, hend, Or.inr ⟨T.heap.size, rfl, cls, ce, locs, hx U hWs.alike f1 (fun q hq => f2 q hq (fun z hz => nomatch hz)), hce, hO.2, hcl, hWs, hall, hf⟩⟩
  refine st1 _ ?_
  show Steps p.tables e below (T1.setTop { method := m, pc := pc + 3, locals := ls, stack := .ref T.heap.size :: rest, locked := none }) _
  jvm_step X₁.here [X₁.here.top, hexec, d3', Value.category]
  exact X₁.ldcStringW hexec (own := own) (text := text) (index := is) (a := sa) hown' hstr'.1 hstr'.2
    (g := { method := m, pc := pc + 4, locals := ls, stack := .ref T.heap.size :: .ref T.heap.size :: rest, locked := none }) rfl d4' _ hsteps
end TY
section TZ
variable {l : Launch} {G : Gx} {d : Nat} {y : MR} {pc : Nat} {ls st : List Value} {M : Mm} {bc bs : Nat} {Φ : OutV → Mm → Prop}
theorem Ev.throwX {cls text : String} {ik is ic ix : Nat} {rx : ByteArray} (x0 : decode rx 0 = .ok (.aload_n 0, 1)) (x1 : decode rx 1 = .ok (.aload_n 1, 1)) (x2 : decode rx 2 = .ok (.invokespecial ix, 3)) (x5 : decode rx 5 = .ok (.return_, 1)) (hl : l.stackTraces = false) (hcls : Bundle.fit cls = true)
    (hk : Cond.classLink y.1.cls ik cls ∈ lwg) (hini : Cond.initialized cls ∈ lwg) (hstr : (y.1.cls, is, text) ∈ f_R) (hat : ((Bundle.ownAtomsX y.1.cls ic cls ix rx ["java/lang/RuntimeException", "java/lang/Exception"]).filter vx_no).all (fun w => (lwg.contains w || lwx.contains w) && vx_ot w) = true)
    (d0 : decode y.2.1 pc = .ok (.new ik, 3)) (d3 : decode y.2.1 (pc + 3) = .ok (.dup, 1)) (e1 : decode y.2.1 (pc + 4) = .ok (.ldc_w is, 3)) (e2 : decode y.2.1 (pc + 7) = .ok (.invokespecial ic, 3)) (e3 : decode y.2.1 (pc + 10) = .ok (.athrow, 1))
    (hst : (st.map fun v => v.category).sum ≤ 8) (hd6 : 6 ≤ d) (hbc : 1 ≤ bc) (hbs : 6 ≤ bs) (hq : Φ (.inr cls) M) : Ev l G d y pc ls st M bc bs Φ := by
  intro p e s m args below meth c mc ms ad0 n0 H locs cells slots ad lsA F X0
  obtain ⟨x1', x2', x3, x4, x5', x6, x7, x8, x9⟩ := id X0
  have hin : ∀ w ∈ (Bundle.ownAtomsX y.1.cls ic cls ix rx ["java/lang/RuntimeException", "java/lang/Exception"]).filter vx_no, w ∈ lwg ∨ w ∈ lwx := fun w hw => by
    have h := List.all_eq_true.mp hat w hw
    rw [Bool.and_eq_true, Bool.or_eq_true] at h
    exact h.1.imp List.contains_iff_mem.mp List.contains_iff_mem.mp
  have hot : ∀ w ∈ (Bundle.ownAtomsX y.1.cls ic cls ix rx ["java/lang/RuntimeException", "java/lang/Exception"]).filter vx_no, vx_ot w = true := fun w hw => by
    have h := List.all_eq_true.mp hat w hw
    rw [Bool.and_eq_true] at h
    exact h.2
  have hat' : ∀ w ∈ (Bundle.ownAtomsX y.1.cls ic cls ix rx ["java/lang/RuntimeException", "java/lang/Exception"]).filter vx_no, w.before args s = true := fun w hw => by
    rcases hin w hw with h | h
    · exact F.2.2.2.2.2.1 w h
    · have h1 : w.before #[] s = true := F.2.2.2.2.2.2.2.2.1.2.2.2.2.2.2.2.2.2 w h
      exact vx_ot_at (State.WarmedH.refl s) rfl (hot w hw) h1
  have hgood : ∀ w ∈ Cond.classLink y.1.cls ik cls :: Cond.initialized cls :: (Bundle.ownAtomsX y.1.cls ic cls ix rx ["java/lang/RuntimeException", "java/lang/Exception"]).filter vx_no, vx_ot w = true := fun w hw => by
    rcases List.mem_cons.mp hw with e | hw
    · rw [e]; exact ot_good (List.mem_filter.mp hk).2
    · rcases List.mem_cons.mp hw with e | hw
      · rw [e]; exact ot_good (List.mem_filter.mp hini).2
      · exact hot w hw
  obtain ⟨sa, hsa⟩ := F.2.2.2.2.2.2.2.2.1.2.2.2.2.2.2.1 _ hstr
  have hU := F.2.2.2.2.2.2.2.2.1.2.2.2.2.2.2.2.1.kept (m_keepH F)
  have hN := F.2.2.2.2.2.2.2.2.1.2.2.2.2.2.2.2.2.1.kept (m_keepH F)
  have hx : ∀ t : State, s.vm.Alike t.vm → H.size ≤ t.heap.size → (∀ q : Nat, q < H.size → t.heap[q]? = H[q]?) → XcO G ad0 n0 Φ cls s t := fun t _ h1 h2 => by
    refine ⟨M, ad, hq, x8, x9, ⟨x3.1.kept (fun k q hk => h2 q.1 ((x3.1 k q hk).lt)), x3.2.1, x3.2.2.1, x3.2.2.2.1, Nat.le_trans x3.2.2.2.2.1 h1, fun q hq => ?_, x3.2.2.2.2.2.2.1, x3.2.2.2.2.2.2.2⟩, Nat.le_trans x4.1 h1⟩
    rw [h2 q (Nat.lt_of_lt_of_le hq x3.2.2.2.2.1)]
    exact x3.2.2.2.2.2.1 q hq
  have hsum := m_sum (ad := ad) hst
  have hlen : (["java/lang/RuntimeException", "java/lang/Exception"] : List String).length = 2 := rfl
  exact x_throwSW F.1 F.2.1 hl x0 x1 x2 x5 F.2.2.2.2.1 hcls (by decide +kernel) (F.2.2.2.2.2.1 _ hk) (F.2.2.2.2.2.1 _ hini) hsa hat' hgood hU hN x4 (x5'.1.trans F.2.2.2.1.symm) d0 d3 e1 e2 e3 (fun x hx => (F.2.2.2.2.2.2.2.2.2.1 x hx).elim) (show 5 < d by omega) (show _ ≤ 64 * d by rw [hlen]; omega) (show cells + 1 ≤ mc by omega) (show slots + 6 ≤ ms by omega) F.2.2.2.2.2.2.1 hx (fun z hz => x4.2.2 z hz) (by omega) (by omega)
end TZ
end
section
/-! ===== rules: new int[n][k]; a long into a local ===== -/
def m_mal (M : Mm) (N K : Nat) : Mm := (fun b j => if M.2.2.2.2 ≤ b then 0 else M.1 b j, fun b j => if b = M.2.2.2.2 then (if j < N then M.2.2.2.2 + 1 + j else 0) else if M.2.2.2.2 ≤ b then 0 else M.2.1 b j, fun b j => if M.2.2.2.2 ≤ b then 0 else M.2.2.1 b j,
  fun b => if b = M.2.2.2.2 then (33, N) else if M.2.2.2.2 < b ∧ b < M.2.2.2.2 + 1 + N then (20, K) else M.2.2.2.1 b, M.2.2.2.2 + 1 + N)
theorem m_i_mal (M : Mm) (N K b j : Nat) : m_i (m_mal M N K) b j = if m_nx M ≤ b then 0 else m_i M b j := rfl
theorem m_r_mal (M : Mm) (N K b j : Nat) : m_r (m_mal M N K) b j = if b = m_nx M then (if j < N then m_nx M + 1 + j else 0) else if m_nx M ≤ b then 0 else m_r M b j := rfl
theorem m_l_mal (M : Mm) (N K b j : Nat) : m_l (m_mal M N K) b j = if m_nx M ≤ b then 0 else m_l M b j := rfl
theorem m_sh_mal (M : Mm) (N K b : Nat) : m_sh (m_mal M N K) b = if b = m_nx M then (33, N) else if m_nx M < b ∧ b < m_nx M + 1 + N then (20, K) else m_sh M b := rfl
theorem m_nx_mal (M : Mm) (N K : Nat) : m_nx (m_mal M N K) = m_nx M + 1 + N := rfl
theorem Lv.sto2 {ad : Nat → Nat} {ls : List Value} {n : Nat} {lsA : Array Slot} {i : Nat} {x : Int64} (h : lv_has lsA n ((i, Value.long x) :: (prs ad ls).filter (fun q => !(q.1 == i) && (!(q.1 == i + 1) && !(q.1 + 1 == i && q.2.category == 2))))) : Lv ad ((sto ls i (.long x)).set (i + 1) .null) n lsA := by
  refine ⟨h.1, h.2.1, fun j w hj hw => ?_⟩
  by_cases e1 : j = i + 1
  · subst e1
    have hlt := (List.getElem?_eq_some_iff.mp hj).1
    rw [List.getElem?_set_self (by simpa using hlt)] at hj
    exact absurd (Option.some.inj hj).symm hw
  · rw [List.getElem?_set_ne (Ne.symm e1)] at hj
    by_cases e : j = i
    · subst e
      have : w = .long x := by
        unfold sto at hj
        have hlt := (List.getElem?_eq_some_iff.mp hj).1
        rw [List.getElem?_set_self (by simpa using hlt)] at hj
        exact (Option.some.inj hj).symm
      subst this
      exact h.2.2 (j, Value.long x) List.mem_cons_self
    · have key : ls[j]? = some w ∧ ¬ (j + 1 = i ∧ w.category = 2) := by
        unfold sto at hj
        rw [List.getElem?_set_ne (Ne.symm e)] at hj
        match i, hj, e with
        | 0, hj, _ => exact ⟨hj, fun q => by cases q.1⟩
        | k + 1, hj, e =>
          cases hk : ls[k]? with
          | none =>
            simp only [hk] at hj
            exact ⟨hj, fun q => by have : j = k := by omega
                                   subst this; rw [hk] at hj; cases hj⟩
          | some u =>
            simp only [hk] at hj
            by_cases hc : u.category = 2
            · rw [if_pos hc] at hj
              by_cases ej : j = k
              · subst ej
                have hlt := (List.getElem?_eq_some_iff.mp hk).1
                rw [List.getElem?_set_self hlt] at hj
                exact absurd (Option.some.inj hj).symm hw
              · rw [List.getElem?_set_ne (Ne.symm ej)] at hj
                exact ⟨hj, fun q => ej (by omega)⟩
            · rw [if_neg hc] at hj
              refine ⟨hj, fun q => ?_⟩
              have : j = k := by omega
              subst this
              rw [hk] at hj
              cases hj
              exact hc q.2
      refine h.2.2 (j, tr ad w) (List.mem_cons_of_mem _ (List.mem_filter.mpr ⟨prs_mem key.1 hw, ?_⟩))
      simp only [Bool.and_eq_true, Bool.not_eq_true', beq_eq_false_iff_ne, ne_eq, Bool.and_eq_false_iff, tr_cat]
      refine ⟨e, e1, ?_⟩
      by_cases h1 : j + 1 = i
      · exact Or.inr fun q => key.2 ⟨h1, q⟩
      · exact Or.inl h1
section R8
variable {l : Launch} {G : Gx} {d : Nat} {y : MR} {pc : Nat} {ls st : List Value} {M : Mm} {bc bs : Nat} {Φ : OutV → Mm → Prop}
theorem bd_set {n : Nat} {l : List Value} {i : Nat} (h : bdL n l) : bdL n (l.set i .null) := fun a ha => (List.mem_or_eq_of_mem_set ha).elim (h a) (fun e => by cases e)
theorem Ev.lstore_n {j : Fin 4} {x : Int64} (hd : decode y.2.1 pc = .ok (.lstore_n j, 1)) (hi : (j : Nat) + 1 < y.2.2.1) (k : Ev l G d y (pc + 1) ((sto ls j (.long x)).set ((j : Nat) + 1) .null) st M bc bs Φ) : Ev l G d y pc ls (.long x :: st) M bc bs Φ := by
  intro p e s m args below meth c mc ms ad0 n0 H locs cells slots ad lsA F X
  obtain ⟨x1, x2, x3, x4, x5, x6, x7, x8, x9⟩ := id X
  refine lv_lstore_n F.1 F.2.1 hd rfl x5.has hi rfl fun lsB hB => ?_
  exact k p e s m args below meth c mc ms ad0 n0 H locs cells slots ad lsB F ⟨x1, x2, x3, x4, Lv.sto2 hB, bd_set (bd_sto x6 (bd_l (fun a h => by cases h))), bd_t x7, x8, x9⟩
theorem Ev.lstore {i : Nat} {x : Int64} (hd : decode y.2.1 pc = .ok (.lstore i, 2)) (hi : i + 1 < y.2.2.1) (k : Ev l G d y (pc + 2) ((sto ls i (.long x)).set (i + 1) .null) st M bc bs Φ) : Ev l G d y pc ls (.long x :: st) M bc bs Φ := by
  intro p e s m args below meth c mc ms ad0 n0 H locs cells slots ad lsA F X
  obtain ⟨x1, x2, x3, x4, x5, x6, x7, x8, x9⟩ := id X
  refine lv_lstore F.1 F.2.1 hd x5.has hi rfl fun lsB hB => ?_
  exact k p e s m args below meth c mc ms ad0 n0 H locs cells slots ad lsB F ⟨x1, x2, x3, x4, Lv.sto2 hB, bd_set (bd_sto x6 (bd_l (fun a h => by cases h))), bd_t x7, x8, x9⟩
theorem Ev.mna {idx N K : Nat} {n k : Int32} (hd : decode y.2.1 pc = .ok (.multianewarray idx 2, 4)) (hcl : Cond.classLink y.1.cls idx ("[" ++ (FieldType.array .int).toString) ∈ lwg) (hov : Cond.arrayOver (.array .int) ∈ lwx) (har : Cond.arrayClass .int ∈ lwg) (hn : ¬ n < 0) (hk : ¬ k < 0) (hN : n.toNatClampNeg = N) (hK : k.toNatClampNeg = K) (hb1 : N * 4 ≤ 536870912) (hb2 : K * 4 ≤ 536870912)
    (kk : Ev l G d y (pc + 4) ls (.ref (m_nx M) :: st) (m_mal M N K) bc bs Φ) : Ev l G d y pc ls (.int k :: .int n :: st) M (1 + N + bc) (N + N * K + bs) Φ := by
  intro p e s m args below meth c mc ms ad0 n0 H locs cells slots ad lsA F X0
  obtain ⟨x1, x2, x3, x4, x5, x6, x7, x8, x9⟩ := id X0
  subst hN
  subst hK
  intro T hT Xs
  have hov' : (Cond.arrayOver (.array .int)).before args s = true := F.2.2.2.2.2.2.2.2.1.2.2.2.2.2.2.2.2.2 _ hov
  obtain ⟨vm₁, cA, comp, -, fA, fC, hO, -, X', step⟩ := Xs.multianewarray2F (ty := .int) F.1 F.2.2.2.2.1 (F.2.2.2.2.2.1 _ hcl) hov' (F.2.2.2.2.2.1 _ har) (g := F0 m pc lsA ((Value.int k :: Value.int n :: st).map (tr ad))) rfl (by rw [F.2.1]; exact hd) rfl hn hk hb1 hb2 (by omega) rfl rfl (show cells + (1 + n.toNatClampNeg) ≤ mc by omega) (show slots + (n.toNatClampNeg + n.toNatClampNeg * k.toNatClampNeg) ≤ ms by omega)
  have hcA : cA = G.2.1 33 := m_arrId fA (F.2.2.2.2.2.2.2.2.1.1.2 6 (G.2.1 33, .array .int) rfl).2
  have hcy : comp = G.2.1 20 := m_arrId fC (F.2.2.2.2.2.2.2.2.1.1.2 0 (G.2.1 20, .int) rfl).2
  subst hcA
  subst hcy
  generalize n.toNatClampNeg = N at *
  generalize k.toNatClampNeg = K at *
  generalize hF : Jvm.Free.Multi.fill (T.setVm vm₁) (G.2.1 33) (G.2.1 20) N K (defaultValue .int) N = FT at X' step
  have hTh : (T.setVm vm₁).heap = H := hT
  obtain ⟨f1, f2, -, -⟩ := Jvm.Free.Multi.fill_facts (T.setVm vm₁) (G.2.1 33) (G.2.1 20) N K (defaultValue .int) N
  rw [hF, hTh] at f1 f2
  have hold : ∀ x : Nat, x < H.size → FT.heap[x]? = H[x]? := fun x hx => by
    have := Jvm.Free.Multi.fill_old (T.setVm vm₁) (G.2.1 33) (G.2.1 20) N K (defaultValue .int) (a := x) (by rw [hTh]; exact hx) N
    rw [hF, hTh] at this
    exact this
  have hrow : ∀ j : Nat, j < N → FT.heap[H.size + 1 + j]? = some (vp_cell (G.2.1 20) (K, .inl (fun _ => 0))) := fun j hj => by
    have := Jvm.Free.Multi.fill_inner (T.setVm vm₁) (G.2.1 33) (G.2.1 20) N K (defaultValue .int) N j hj
    rw [hF, hTh] at this
    rw [this]
    show some ({ cls := G.2.1 20, slots := Array.replicate K (Value.int 0), vm := .none } : Cell) = _
    rw [arrV_new]
    rfl
  have hout : Jvm.Free.Multi.outerC (G.2.1 33) N H.size N = vp_cell (G.2.1 33) (N, .inr (.inr (.inr (.inr (fun i => if i < N then some (H.size + 1 + i) else none))))) := by
    rw [vp_cell_q]
    exact vr_outer (G.2.1 33) N H.size N
  rw [hout] at f2
  have h100 := x3.2.2.1
  let ad' : Nat → Nat := fun a => if a < m_nx M then ad a else H.size + (a - m_nx M)
  have hu : ∀ a, a < m_nx M → ad' a = ad a := fun a ha => if_pos ha
  have hv : ∀ a, ¬ a < m_nx M → ad' a = H.size + (a - m_nx M) := fun a ha => if_neg ha
  have hcell : ∀ b, b < m_nx M → m_cell G.2.1 ad' (m_mal M N K) b = m_cell G.2.1 ad M b := by
    intro b hb
    have e1 : m_i (m_mal M N K) b = m_i M b := funext fun j => by rw [m_i_mal, if_neg (by omega)]
    have e2 : m_r (m_mal M N K) b = m_r M b := funext fun j => by rw [m_r_mal, if_neg (by omega), if_neg (by omega)]
    have e3 : m_l (m_mal M N K) b = m_l M b := funext fun j => by rw [m_l_mal, if_neg (by omega)]
    have e4 : m_sh (m_mal M N K) b = m_sh M b := by rw [m_sh_mal, if_neg (by omega), if_neg (by omega)]
    have e5 : ∀ k, tr ad' (.ref (m_r M b k)) = tr ad (.ref (m_r M b k)) := fun k => tr_ext hu (bd_r (x3.2.2.2.1 b k) (fun a h => by cases h))
    have e6 : ∀ ci, m_fv ad' (m_mal M N K) b ci = m_fv ad M b ci := fun ci => funext fun j => by
      unfold m_fv
      rw [e1, e2, e5]
    have e7 : (fun j => rf_ ad' (m_r M b j)) = fun j => rf_ ad (m_r M b j) := funext fun j => by
      unfold rf_
      by_cases h : m_r M b j = 0
      · rw [if_pos h, if_pos h]
      · rw [if_neg h, if_neg h, hu _ (x3.2.2.2.1 b j)]
    unfold m_cell
    rw [e4, e1, e2, e3, e6, e7]
  have hat : ∀ (i : Nat) (q : Nat × va_E), (m_ws G.2.1 ad' (m_mal M N K))[i]? = some q → 100 + i < m_nx M + 1 + N ∧ q = (ad' (100 + i), m_cell G.2.1 ad' (m_mal M N K) (100 + i)) := by
    intro i q hq
    unfold m_ws at hq
    rw [List.getElem?_map, m_nx_mal] at hq
    by_cases hl : i < m_nx M + 1 + N - 100
    · rw [List.getElem?_range hl] at hq
      exact ⟨by omega, (Option.some.inj hq).symm⟩
    · rw [List.getElem?_eq_none (by rw [List.length_range]; omega)] at hq
      cases hq
  have hltO : ∀ a, 100 ≤ a → a < m_nx M → ad a < H.size ∧ G.2.2.1.size ≤ ad a := fun a h1 h2 =>
    ⟨(x3.1 _ _ (m_ws_at G.2.1 ad M ⟨h1, h2⟩)).lt, x3.2.1.2 _ _ (m_ws_at G.2.1 ad M ⟨h1, h2⟩)⟩
  have hP : va_P G.1 vwCl (m_ws G.2.1 ad' (m_mal M N K)) FT.heap := by
    intro i q hq
    obtain ⟨hl, rfl⟩ := hat i q hq
    by_cases h1 : 100 + i < m_nx M
    · rw [hu _ h1, hcell _ h1]
      exact (x3.1 _ _ (m_ws_at G.2.1 ad M ⟨by omega, h1⟩)).kept (hold _ (hltO _ (by omega) h1).1)
    · rw [hv _ h1]
      by_cases h2 : 100 + i = m_nx M
      · rw [h2, Nat.sub_self, Nat.add_zero, m_cell_R G.2.1 ad' (m_mal M N K) (t := 33) (n := N) (by rw [m_sh_mal, if_pos rfl]) (by decide)]
        have e9 : (fun j => rf_ ad' (m_r (m_mal M N K) (m_nx M) j)) = fun i => if i < N then some (H.size + 1 + i) else none := funext fun j => by
          rw [m_r_mal, if_pos rfl]
          by_cases hj : j < N
          · rw [if_pos hj, if_pos hj]
            unfold rf_
            rw [if_neg (by omega), hv _ (by omega)]
            congr 1
            omega
          · rw [if_neg hj, if_neg hj]
            rfl
        rw [e9]
        exact f2
      · rw [m_cell_I G.2.1 ad' (m_mal M N K) (t := 20) (n := K) (by rw [m_sh_mal, if_neg h2, if_pos (by omega)]) (by decide) (by decide)]
        have e9 : m_i (m_mal M N K) (100 + i) = fun _ => 0 := funext fun j => by rw [m_i_mal, if_pos (by omega)]
        rw [e9]
        have := hrow (100 + i - m_nx M - 1) (by omega)
        rw [show H.size + 1 + (100 + i - m_nx M - 1) = H.size + (100 + i - m_nx M) by omega] at this
        exact this
  have hbase := x3.2.2.2.2.1
  have hD : va_D (fun q => G.2.2.1.size ≤ q) (m_ws G.2.1 ad' (m_mal M N K)) := by
    refine ⟨fun i j q r hi hj hqr => ?_, fun i q hi => ?_⟩
    · obtain ⟨l1, rfl⟩ := hat i q hi
      obtain ⟨l2, rfl⟩ := hat j r hj
      dsimp only at hqr
      by_cases h1 : 100 + i < m_nx M <;> by_cases h2 : 100 + j < m_nx M
      · rw [hu _ h1, hu _ h2] at hqr
        have := x3.2.1.1 _ _ _ _ (m_ws_at G.2.1 ad M ⟨by omega, h1⟩) (m_ws_at G.2.1 ad M ⟨by omega, h2⟩) hqr
        omega
      · rw [hu _ h1, hv _ h2] at hqr
        have := (hltO _ (by omega) h1).1
        omega
      · rw [hv _ h1, hu _ h2] at hqr
        have := (hltO _ (by omega) h2).1
        omega
      · rw [hv _ h1, hv _ h2] at hqr
        omega
    · obtain ⟨l1, rfl⟩ := hat i q hi
      show G.2.2.1.size ≤ ad' (100 + i)
      by_cases h1 : 100 + i < m_nx M
      · rw [hu _ h1]
        exact (hltO _ (by omega) h1).2
      · rw [hv _ h1]
        omega
  have hsz : H.size ≤ FT.heap.size := by rw [f1]; omega
  have hR : RelE G (m_mal M N K) ad' FT.heap := by
    refine ⟨hP, hD, by rw [m_nx_mal]; omega, fun a k => ?_, by omega, fun q hq => ?_, fun a ha => ?_, fun a ha => ?_⟩
    · rw [m_nx_mal, m_r_mal]
      split
      · split <;> omega
      · split
        · omega
        · have := x3.2.2.2.1 a k; omega
    · rw [hold q (by omega)]
      exact x3.2.2.2.2.2.1 q hq
    · rw [hu a (by omega)]
      exact x3.2.2.2.2.2.2.1 a ha
    · rw [m_nx_mal] at ha
      rw [m_sh_mal, if_neg (by omega), if_neg (by omega)]
      exact x3.2.2.2.2.2.2.2 a (by omega)
  have hS : va_S (fun q => G.2.2.1.size ≤ q) s.heap FT.heap locs := ⟨Nat.le_trans x4.1 hsz, fun q h1 h2 => (hold q (Nat.lt_of_lt_of_le h1 x4.1)).trans (x4.2.1 q h1 h2), x4.2.2⟩
  have KK := kk p e s m args below meth c mc ms ad0 n0 FT.heap locs (cells + 1 + N) (slots + N + N * K) ad' lsA F ⟨by omega, by omega, hR, hS, x5.ext hu x6, bd_le (by rw [m_nx_mal]; omega) x6, bd_r (by rw [m_nx_mal]; omega) (bd_le (by rw [m_nx_mal]; omega) (bd_t (bd_t x7))), fun a ha => (hu a (by omega)).trans (x8 a ha), by rw [m_nx_mal]; omega⟩
  obtain ⟨t, a1, b1⟩ := KK FT rfl X'
  refine ⟨t, step t ?_, b1⟩
  have e1 : T.heap.size = H.size := by rw [hT]
  have e2 : tr ad' (.ref (m_nx M)) = .ref H.size := by
    obtain ⟨z, hz⟩ : ∃ z, m_nx M = z + 1 := ⟨m_nx M - 1, by omega⟩
    have h3 := hv (m_nx M) (by omega)
    rw [Nat.sub_self, Nat.add_zero] at h3
    rw [hz] at h3 ⊢
    show Value.ref (ad' (z + 1)) = _
    rw [h3]
  rw [List.map_cons, tr_extL hu (bd_t (bd_t x7)), e2] at a1
  rw [e1]
  exact a1
end R8
end
section
/-! ===== a call as a condition; rules in the form that the printed blocks use ===== -/
/-- a call of z with the arguments av from memory M; it goes on at pc2 with the answer on the stack st -/
def CallVC (l : Launch) (G : Gx) (d : Nat) (y : MR) (pc2 : Nat) (ls st : List Value) (z : MR) (av : List Value) (M : Mm) (bc bs : Nat) (Φ : OutV → Mm → Prop) : Prop :=
  ∃ (d2 bc2 bs2 bc3 bs3 : Nat) (Φ2 : OutV → Mm → Prop), d2 < d ∧ bc = bc2 + bc3 ∧ bs = bs2 + bs3 ∧ Ct l G d2 z bc2 bs2 av M Φ2 ∧ (∀ v M', Φ2 (.inl v) M' → Ev l G d y pc2 ls (v.toList ++ st) M' bc3 bs3 Φ) ∧ ∀ E M', Φ2 (.inr E) M' → Φ (.inr E) M'
/-- the same of a callee that can't throw -/
def CallVN (l : Launch) (G : Gx) (d : Nat) (y : MR) (pc2 : Nat) (ls st : List Value) (z : MR) (av : List Value) (M : Mm) (bc bs : Nat) (Φ : OutV → Mm → Prop) : Prop :=
  ∃ (d2 bc2 bs2 bc3 bs3 : Nat) (Φ2 : OutV → Mm → Prop), d2 < d ∧ bc = bc2 + bc3 ∧ bs = bs2 + bs3 ∧ Ct l G d2 z bc2 bs2 av M Φ2 ∧ (∀ v M', Φ2 (.inl v) M' → Ev l G d y pc2 ls (v.toList ++ st) M' bc3 bs3 Φ) ∧ ∀ E M', ¬ Φ2 (.inr E) M'
theorem fitR {ty : FieldType} (h : (∃ C, ty = .object C) ∨ ∃ t, ty = .array t) (v : Nat) (ad : Nat → Nat) : narrow ty (tr ad (.ref v)) = tr ad (.ref v) ∧ fits ty (tr ad (.ref v)) = true := by
  rcases h with ⟨C, rfl⟩ | ⟨t, rfl⟩ <;> cases v <;> exact ⟨rfl, rfl⟩
section VC
variable {l : Launch} {G : Gx} {d : Nat} {y : MR} {pc : Nat} {ls st : List Value} {M : Mm} {bc bs : Nat} {Φ : OutV → Mm → Prop}
theorem Ev.iald2 {a : Nat} {i : Int32} (hd : decode y.2.1 pc = .ok (.iaload, 1)) (hs : (m_sh M a).1 = 20) (hin : vp_in i (m_sh M a).2) (kk : Ev l G d y (pc + 1) ls (.int (m_i M a i.toNatClampNeg) :: st) M bc bs Φ) : Ev l G d y pc ls (.int i :: .ref a :: st) M bc bs Φ := Ev.iald hd (n := (m_sh M a).2) (Prod.ext hs rfl) hin kk
theorem Ev.bald2 {a : Nat} {i : Int32} (hd : decode y.2.1 pc = .ok (.baload, 1)) (hs : (m_sh M a).1 = 21) (hin : vp_in i (m_sh M a).2) (kk : Ev l G d y (pc + 1) ls (.int (m_i M a i.toNatClampNeg) :: st) M bc bs Φ) : Ev l G d y pc ls (.int i :: .ref a :: st) M bc bs Φ := Ev.bald hd (n := (m_sh M a).2) (Prod.ext hs rfl) hin kk
theorem Ev.lald2 {a : Nat} {i : Int32} (hd : decode y.2.1 pc = .ok (.laload, 1)) (hs : (m_sh M a).1 = 22) (hin : vp_in i (m_sh M a).2) (kk : Ev l G d y (pc + 1) ls (.long (m_l M a i.toNatClampNeg) :: st) M bc bs Φ) : Ev l G d y pc ls (.int i :: .ref a :: st) M bc bs Φ := Ev.lald hd (n := (m_sh M a).2) (Prod.ext hs rfl) hin kk
theorem Ev.aald2 {a : Nat} {i : Int32} (t : Nat) (ht : t = 30 ∨ t = 31 ∨ t = 32 ∨ t = 33) (hd : decode y.2.1 pc = .ok (.aaload, 1)) (hs : (m_sh M a).1 = t) (hin : vp_in i (m_sh M a).2) (kk : Ev l G d y (pc + 1) ls (.ref (m_r M a i.toNatClampNeg) :: st) M bc bs Φ) : Ev l G d y pc ls (.int i :: .ref a :: st) M bc bs Φ := Ev.aald hd (t := t) (n := (m_sh M a).2) (Prod.ext hs rfl) ht hin kk
theorem Ev.alen2 {a : Nat} (t : Nat) (ht : t = 20 ∨ t = 21) (hd : decode y.2.1 pc = .ok (.arraylength, 1)) (hs : (m_sh M a).1 = t) (kk : Ev l G d y (pc + 1) ls (.int (Int32.ofNat (m_sh M a).2) :: st) M bc bs Φ) : Ev l G d y pc ls (.ref a :: st) M bc bs Φ := Ev.alen hd (t := t) (n := (m_sh M a).2) (Prod.ext hs rfl) ht kk
theorem Ev.iast2 {a : Nat} {i x : Int32} (hd : decode y.2.1 pc = .ok (.iastore, 1)) (hs : (m_sh M a).1 = 20) (hin : vp_in i (m_sh M a).2) (kk : Ev l G d y (pc + 1) ls st (m_si M a i.toNatClampNeg x) bc bs Φ) : Ev l G d y pc ls (.int x :: .int i :: .ref a :: st) M bc bs Φ := Ev.iast hd (n := (m_sh M a).2) (Prod.ext hs rfl) hin kk
theorem Ev.bast2 {a : Nat} {i x : Int32} (hd : decode y.2.1 pc = .ok (.bastore, 1)) (hs : (m_sh M a).1 = 21) (hin : vp_in i (m_sh M a).2) (kk : Ev l G d y (pc + 1) ls st (m_si M a i.toNatClampNeg (vp_nar .byte x)) bc bs Φ) : Ev l G d y pc ls (.int x :: .int i :: .ref a :: st) M bc bs Φ := Ev.bast hd (n := (m_sh M a).2) (Prod.ext hs rfl) hin kk
theorem Ev.last2 {a : Nat} {i : Int32} {x : Int64} (hd : decode y.2.1 pc = .ok (.lastore, 1)) (hs : (m_sh M a).1 = 22) (hin : vp_in i (m_sh M a).2) (kk : Ev l G d y (pc + 1) ls st (m_sl M a i.toNatClampNeg x) bc bs Φ) : Ev l G d y pc ls (.long x :: .int i :: .ref a :: st) M bc bs Φ := Ev.last hd (n := (m_sh M a).2) (Prod.ext hs rfl) hin kk
theorem Ev.vcV {idx ci a n : Nat} {z : MR} (av st : List Value) {st0 : List Value} (hst0 : st0 = av.reverse ++ .ref a :: st) (hd : decode y.2.1 pc = .ok (.invokevirtual idx, 3)) (hm : MOK z n) (hn : av.length = n) (hl : Cond.methodLink y.1.cls idx z.1 ∈ lwg) (hi : Cond.instanceMethod z.1 ∈ lwg) (hsel : Cond.selects z.1.cls z.1 z.1 ∈ lwg) (hci : ci < 12) (hcn : (vwCl[ci]?).map (fun q => q.1) = some z.1.cls) (hs : (m_sh M a).1 = ci) (hst : (st.map fun v => v.category).sum ≤ 8)
    (h : CallVC l G d y (pc + 3) ls st z (.ref a :: av) M bc bs Φ) : Ev l G d y pc ls st0 M bc bs Φ := by
  obtain ⟨d2, bc2, bs2, bc3, bs3, Φ2, h1, h2, h3, h4, h5, h6⟩ := h
  subst hst0; subst h2; subst h3
  exact Ev.callV hd hm hn hl hi hsel hci hcn hs h1 hst h4 h5 h6
theorem Ev.vcS {idx n : Nat} {z : MR} (av st : List Value) {st0 : List Value} (hst0 : st0 = av.reverse ++ st) (hd : decode y.2.1 pc = .ok (.invokestatic idx, 3)) (hm : MOK z n) (hn : av.length = n) (hl : Cond.methodLink y.1.cls idx z.1 ∈ lwg) (hi : Cond.static z.1 ∈ lwg) (hst : (st.map fun v => v.category).sum ≤ 8)
    (h : CallVC l G d y (pc + 3) ls st z av M bc bs Φ) : Ev l G d y pc ls st0 M bc bs Φ := by
  obtain ⟨d2, bc2, bs2, bc3, bs3, Φ2, h1, h2, h3, h4, h5, h6⟩ := h
  subst hst0; subst h2; subst h3
  exact Ev.callS hd hm hn hl hi h1 hst h4 h5 h6
theorem Ev.vcSN {idx n : Nat} {z : MR} {host : String} (av st : List Value) {st0 : List Value} (hst0 : st0 = av.reverse ++ st) (hd : decode y.2.1 pc = .ok (.invokestatic idx, 3)) (hm : MOK z n) (hn : av.length = n) (hl : Cond.methodLinkNest y.1.cls idx z.1 host ∈ lwx) (hi : Cond.static z.1 ∈ lwg) (hst : (st.map fun v => v.category).sum ≤ 8)
    (h : CallVN l G d y (pc + 3) ls st z av M bc bs Φ) : Ev l G d y pc ls st0 M bc bs Φ := by
  obtain ⟨d2, bc2, bs2, bc3, bs3, Φ2, h1, h2, h3, h4, h5, h6⟩ := h
  subst hst0; subst h2; subst h3
  exact Ev.callSN hd hm hn hl hi h1 hst h4 h6 h5
theorem Ev.vcI {idx a n : Nat} {z : MR} (av st : List Value) {st0 : List Value} (hst0 : st0 = av.reverse ++ .ref a :: st) (hd : decode y.2.1 pc = .ok (.invokespecial idx, 3)) (hm : MOK z n) (hn : av.length = n) (hl : Cond.methodLink y.1.cls idx z.1 ∈ lwg ∨ ∃ host, Cond.methodLinkNest y.1.cls idx z.1 host ∈ lwx) (hi : Cond.instanceMethod z.1 ∈ lwg) (hin : z.1.name = "<init>") (hret : z.2.2.2 = none) (ha : a ≠ 0) (hst : (st.map fun v => v.category).sum ≤ 8)
    (h : CallVN l G d y (pc + 3) ls st z (.ref a :: av) M bc bs Φ) : Ev l G d y pc ls st0 M bc bs Φ := by
  obtain ⟨d2, bc2, bs2, bc3, bs3, Φ2, h1, h2, h3, h4, h5, h6⟩ := h
  subst hst0; subst h2; subst h3
  exact Ev.callI hd hm hn hl hi hin hret ha h1 hst h4 h6 h5
/-- a call that makes no cells and comes back with r, by a condition on the memory -/
theorem CallVC.ret {pc2 d2 : Nat} {z : MR} {av : List Value} (r : Option Value) {P : Mm → Prop} (hd : d2 < d) (hM : Ct l G d2 z 0 0 av M (fun o M' => o = .inl r ∧ P M')) (k : ∀ M', P M' → Ev l G d y pc2 ls (r.toList ++ st) M' bc bs Φ) : CallVC l G d y pc2 ls st z av M bc bs Φ :=
  ⟨d2, 0, 0, bc, bs, _, hd, (Nat.zero_add _).symm, (Nat.zero_add _).symm, hM, fun v M' h => by obtain ⟨h1, h2⟩ := h; cases h1; exact k M' h2, fun E M' h => by cases h.1⟩
theorem CallVN.ret {pc2 d2 : Nat} {z : MR} {av : List Value} (r : Option Value) {P : Mm → Prop} (hd : d2 < d) (hM : Ct l G d2 z 0 0 av M (fun o M' => o = .inl r ∧ P M')) (k : ∀ M', P M' → Ev l G d y pc2 ls (r.toList ++ st) M' bc bs Φ) : CallVN l G d y pc2 ls st z av M bc bs Φ :=
  ⟨d2, 0, 0, bc, bs, _, hd, (Nat.zero_add _).symm, (Nat.zero_add _).symm, hM, fun v M' h => by obtain ⟨h1, h2⟩ := h; cases h1; exact k M' h2, fun E M' h => by cases h.1⟩
/-- weaker ends, more room, more frames -/
theorem Ct.mono {av : List Value} {Φ2 : OutV → Mm → Prop} (h : Ct l G d y bc bs av M Φ) (hq : ∀ o M', Φ o M' → Φ2 o M') : Ct l G d y bc bs av M Φ2 := by
  intro ad hbd p e ha hc hk s m args below hf happ hP hK
  obtain ⟨n, o, h1, h2, h3, h4⟩ := h ad hbd p e ha hc hk s m args below hf happ hP hK
  refine ⟨n, o, h1, h2, h3, ?_⟩
  rcases h4 with ⟨⟨v, M', ad', g1, g2, g3⟩, g⟩ | ⟨q, g0, E, ce, L, ⟨M', ad', g2, g3⟩, g⟩
  · exact Or.inl ⟨⟨v, M', ad', g1, hq _ _ g2, g3⟩, g⟩
  · exact Or.inr ⟨q, g0, E, ce, L, ⟨M', ad', hq _ _ g2, g3⟩, g⟩
end VC
end
section
theorem lwx_of {w : Cond} (i : Nat) (h : lw_tbl[i]? = some w) (hg : okX w = true) : w ∈ lwx := List.mem_filter.mpr ⟨List.mem_of_getElem? h, hg⟩
theorem w_oi : Cond.instanceMethod Lib.objectInit ∈ lwg := lwg_of 126 (by decide +kernel) (by decide +kernel)
theorem w_oc : Cond.code Lib.objectInit ⟨#[0xb1]⟩ 1 none ∈ lwg := lwg_of 127 (by decide +kernel) (by decide +kernel)
end
section
/-! ===== rules once more, in the form that the printed blocks use: room that is left; constants WORDS and their texts ===== -/
def wM (a : Nat) : Int32 := ([0, 0, 0, 0, 0, 0, 2, 3, 4, 5, 6, 7, 8, 9, 0, 0, 0, -1, -2, -3, -4, -5, -6, -7] : List Int32).getD a 0
def wLo (a : Nat) : Int32 := ([0, 0, 0, 0, 0, 0, 1, 1, 0, 0, 0, 1, 0, 0, 0, 0, 0, 0, 0, 0, 0, 0, 0, 0] : List Int32).getD a 0
def wHi (a : Nat) : Int32 := ([0, 0, 0, 0, 4, 99, 99, 9, 999, 999, 9, 999, 0, 0, 0, 0, 0, 0, 0, 0, 0, 0, 0, 0] : List Int32).getD a 0
/-- the bytes of the text of the WORD a -/
def wTx (a : Nat) : List Int32 := ([[], [], [112, 101, 114, 115, 111, 110], [107, 110, 111, 119, 115], [119, 97, 121], [117, 110, 116, 105, 108], [100, 117, 101], [116, 105, 109, 101, 115], [98, 101, 108, 108], [115, 104, 117, 116], [98, 111, 119], [108, 97, 112, 115, 101], [119, 111, 114, 116, 104], [109, 117, 115, 116], [111, 114], [97, 110, 100], [110, 111, 116], [97, 103, 101], [108, 111, 97, 100], [101, 114, 114, 97, 110, 100], [111, 108, 100, 101, 114], [104, 101, 97, 118, 105, 101, 114], [108, 111, 110, 103, 101, 114], [104, 111, 117, 114]] : List (List Int32)).getD a []
def cLo (i : Nat) : Int32 := ([0, 0, 0, 1, 1] : List Int32).getD i 0
def cHi (i : Nat) : Int32 := ([999, 99, 9, 60, 999] : List Int32).getD i 0
theorem w_all {p : Nat → Bool} (h : (List.range 24).all (fun a => (a == 0) || p a) = true) : ∀ a, (1 ≤ a ∧ a ≤ 23) → p a = true := by
  intro a ha
  have h1 := List.all_eq_true.mp h a (List.mem_range.mpr (by omega))
  rw [Bool.or_eq_true] at h1
  rcases h1 with h1 | h1
  · have := eq_of_beq h1; omega
  · exact h1
theorem wM_ok : ∀ a, (1 ≤ a ∧ a ≤ 23) → ("BowingRow$Word", "meaning", "I", a, Value.int (wM a)) ∈ f_O := fun a ha => of_decide_eq_true (w_all (p := fun a => decide (("BowingRow$Word", "meaning", "I", a, Value.int (wM a)) ∈ f_O)) (by decide +kernel) a ha)
theorem wLo_ok : ∀ a, (1 ≤ a ∧ a ≤ 23) → ("BowingRow$Word", "least", "I", a, Value.int (wLo a)) ∈ f_O := fun a ha => of_decide_eq_true (w_all (p := fun a => decide (("BowingRow$Word", "least", "I", a, Value.int (wLo a)) ∈ f_O)) (by decide +kernel) a ha)
theorem wHi_ok : ∀ a, (1 ≤ a ∧ a ≤ 23) → ("BowingRow$Word", "most", "I", a, Value.int (wHi a)) ∈ f_O := fun a ha => of_decide_eq_true (w_all (p := fun a => decide (("BowingRow$Word", "most", "I", a, Value.int (wHi a)) ∈ f_O)) (by decide +kernel) a ha)
theorem wTx_ok : ∀ a, (1 ≤ a ∧ a ≤ 23) → ("BowingRow$Word", "text", "Ljava/lang/String;", a, Value.ref (a + 30)) ∈ f_O := fun a ha => of_decide_eq_true (w_all (p := fun a => decide (("BowingRow$Word", "text", "Ljava/lang/String;", a, Value.ref (a + 30)) ∈ f_O)) (by decide +kernel) a ha)
theorem wV_ok : ∀ a, (1 ≤ a ∧ a ≤ 23) → ("java/lang/String", "value", "[B", a + 30, Value.ref (a + 60)) ∈ f_O := fun a ha => of_decide_eq_true (w_all (p := fun a => decide (("java/lang/String", "value", "[B", a + 30, Value.ref (a + 60)) ∈ f_O)) (by decide +kernel) a ha)
theorem wC_ok : ∀ a, (1 ≤ a ∧ a ≤ 23) → ("java/lang/String", "coder", "B", a + 30, Value.int 0) ∈ f_O := fun a ha => of_decide_eq_true (w_all (p := fun a => decide (("java/lang/String", "coder", "B", a + 30, Value.int 0) ∈ f_O)) (by decide +kernel) a ha)
theorem wB_ok : ∀ a, (1 ≤ a ∧ a ≤ 23) → (FieldType.byte, a + 60, (wTx a).length, (wTx a).map Value.int) ∈ f_T := fun a ha => of_decide_eq_true (w_all (p := fun a => decide ((FieldType.byte, a + 60, (wTx a).length, (wTx a).map Value.int) ∈ f_T)) (by decide +kernel) a ha)
theorem wS_ok : ∀ a, (1 ≤ a ∧ a ≤ 23) → (a + 30, "java/lang/String") ∈ f_C := fun a ha => of_decide_eq_true (w_all (p := fun a => decide ((a + 30, "java/lang/String") ∈ f_C)) (by decide +kernel) a ha)
theorem wW_ok : ∀ a, (1 ≤ a ∧ a ≤ 23) → (a, "BowingRow$Word") ∈ f_C := fun a ha => of_decide_eq_true (w_all (p := fun a => decide ((a, "BowingRow$Word") ∈ f_C)) (by decide +kernel) a ha)
theorem in_nat {i : Int32} {n : Nat} (h : vp_in i n) : i.toNatClampNeg < n := Nat.lt_of_not_le fun q => h (Or.inr q)
section MR_
variable {l : Launch} {G : Gx} {d : Nat} {y : MR} {pc : Nat} {ls st : List Value} {M : Mm} {bc bs : Nat} {Φ : OutV → Mm → Prop}
theorem Ev.newI2 {n : Int32} (N : Nat) (hd : decode y.2.1 pc = .ok (.newarray .int, 2)) (hw : Cond.arrayClass .int ∈ lwg) (hn : ¬ n < 0) (hN : n.toNatClampNeg = N) (hb : N * 4 ≤ 536870912) (hr : 1 ≤ bc ∧ N ≤ bs) (kk : Ev l G d y (pc + 2) ls (.ref (m_nx M) :: st) (m_al M (20, N)) (bc - 1) (bs - N) Φ) : Ev l G d y pc ls (.int n :: st) M bc bs Φ := by
  have h := Ev.newI hd hw hn hN hb kk
  rw [show 1 + (bc - 1) = bc by omega, show N + (bs - N) = bs by omega] at h
  exact h
theorem Ev.newB2 {n : Int32} (N : Nat) (hd : decode y.2.1 pc = .ok (.newarray .byte, 2)) (hw : Cond.arrayClass .byte ∈ lwg) (hn : ¬ n < 0) (hN : n.toNatClampNeg = N) (hb : N * 1 ≤ 536870912) (hr : 1 ≤ bc ∧ N ≤ bs) (kk : Ev l G d y (pc + 2) ls (.ref (m_nx M) :: st) (m_al M (21, N)) (bc - 1) (bs - N) Φ) : Ev l G d y pc ls (.int n :: st) M bc bs Φ := by
  have h := Ev.newB hd hw hn hN hb kk
  rw [show 1 + (bc - 1) = bc by omega, show N + (bs - N) = bs by omega] at h
  exact h
theorem Ev.newL2 {n : Int32} (N : Nat) (hd : decode y.2.1 pc = .ok (.newarray .long, 2)) (hw : Cond.arrayClass .long ∈ lwg) (hn : ¬ n < 0) (hN : n.toNatClampNeg = N) (hb : N * 8 ≤ 536870912) (hr : 1 ≤ bc ∧ N ≤ bs) (kk : Ev l G d y (pc + 2) ls (.ref (m_nx M) :: st) (m_al M (22, N)) (bc - 1) (bs - N) Φ) : Ev l G d y pc ls (.int n :: st) M bc bs Φ := by
  have h := Ev.newL hd hw hn hN hb kk
  rw [show 1 + (bc - 1) = bc by omega, show N + (bs - N) = bs by omega] at h
  exact h
theorem Ev.newQ2 {idx : Nat} {C : String} {n : Int32} (t t0 N : Nat) (hd : decode y.2.1 pc = .ok (.anewarray idx, 3)) (ht : 22 < t ∧ t < 99) (hC : ∀ cA, (kTys cA)[t0]? = some (cA t, .object C)) (hcl : Cond.classLink y.1.cls idx C ∈ lwg) (hov : Cond.arrayOver (.object C) ∈ lwx) (hn : ¬ n < 0) (hN : n.toNatClampNeg = N) (hb : N * 4 ≤ 536870912) (hr : 1 ≤ bc ∧ N ≤ bs) (kk : Ev l G d y (pc + 3) ls (.ref (m_nx M) :: st) (m_al M (t, N)) (bc - 1) (bs - N) Φ) : Ev l G d y pc ls (.int n :: st) M bc bs Φ := by
  have h := Ev.newQ hd ht hC hcl hov hn hN hb kk
  rw [show 1 + (bc - 1) = bc by omega, show N + (bs - N) = bs by omega] at h
  exact h
theorem Ev.newO2 {idx : Nat} {C : String} {T : u_T} (ci : Nat) (hd : decode y.2.1 pc = .ok (.new idx, 3)) (hc : vwCl[ci]? = some (C, T, nFd ci)) (hci : ci < 12) (hcl : Cond.classLink y.1.cls idx C ∈ lwg) (hins : Cond.instantiable C (nFd ci) ∈ lwg) (hini : Cond.initialized C ∈ lwg) (hr : 1 ≤ bc ∧ nFd ci ≤ bs) (kk : Ev l G d y (pc + 3) ls (.ref (m_nx M) :: st) (m_al M (ci, 0)) (bc - 1) (bs - nFd ci) Φ) : Ev l G d y pc ls st M bc bs Φ := by
  have h := Ev.newO hd hc hci hcl hins hini kk
  rw [show 1 + (bc - 1) = bc by omega, show nFd ci + (bs - nFd ci) = bs by omega] at h
  exact h
theorem Ev.mna2 {idx : Nat} {n k : Int32} (N K : Nat) (hd : decode y.2.1 pc = .ok (.multianewarray idx 2, 4)) (hcl : Cond.classLink y.1.cls idx ("[" ++ (FieldType.array .int).toString) ∈ lwg) (hov : Cond.arrayOver (.array .int) ∈ lwx) (har : Cond.arrayClass .int ∈ lwg) (hn : ¬ n < 0) (hk : ¬ k < 0) (hN : n.toNatClampNeg = N) (hK : k.toNatClampNeg = K) (hb1 : N * 4 ≤ 536870912) (hb2 : K * 4 ≤ 536870912) (hr : 1 + N ≤ bc ∧ N + N * K ≤ bs)
    (kk : Ev l G d y (pc + 4) ls (.ref (m_nx M) :: st) (m_mal M N K) (bc - (1 + N)) (bs - (N + N * K)) Φ) : Ev l G d y pc ls (.int k :: .int n :: st) M bc bs Φ := by
  have h := Ev.mna hd hcl hov har hn hk hN hK hb1 hb2 kk
  rw [show 1 + N + (bc - (1 + N)) = bc by omega, show N + N * K + (bs - (N + N * K)) = bs by omega] at h
  exact h
theorem Ev.aast2 {a v : Nat} {r : vw_C} {i : Int32} (t t0 ci : Nat) (hd : decode y.2.1 pc = .ok (.aastore, 1)) (ht : 22 < t ∧ t < 99) (hC : ∀ cA, (kTys cA)[t0]? = some (cA t, .object r.1)) (hr : vwCl[ci]? = some r) (hci : ci < 12) (hs : (m_sh M a).1 = t) (hin : vp_in i (m_sh M a).2) (hsv : (m_sh M v).1 = ci) (kk : Ev l G d y (pc + 1) ls st (m_sr M a i.toNatClampNeg v) bc bs Φ) : Ev l G d y pc ls (.ref v :: .int i :: .ref a :: st) M bc bs Φ :=
  Ev.aast hd (n := (m_sh M a).2) (t := t) (Prod.ext hs rfl) ht hC hr hci hsv hin kk
theorem Ev.aastW2 {a v : Nat} {i : Int32} (hd : decode y.2.1 pc = .ok (.aastore, 1)) (hs : (m_sh M a).1 = 32) (hin : vp_in i (m_sh M a).2) (hv : 1 ≤ v ∧ v ≤ 23) (kk : Ev l G d y (pc + 1) ls st (m_sr M a i.toNatClampNeg v) bc bs Φ) : Ev l G d y pc ls (.ref v :: .int i :: .ref a :: st) M bc bs Φ :=
  Ev.aastW hd (n := (m_sh M a).2) (Prod.ext hs rfl) (wW_ok v hv) hv hin kk
theorem Ev.copyI2 {idx a b : Nat} {sp dp n : Int32} (hd : decode y.2.1 pc = .ok (.invokestatic idx, 3)) (hl : Cond.methodLink y.1.cls idx arraycopyName ∈ lwg) (hnat : Cond.native arraycopyName ∈ lwg) (hstat : Cond.static arraycopyName ∈ lwg) (hini : Cond.initialized "java/lang/System" ∈ lwg) (hst : (st.map fun v => v.category).sum ≤ 8) (hsa : (m_sh M a).1 = 20) (hsb : (m_sh M b).1 = 20) (h : (¬ sp < 0 ∧ ¬ dp < 0 ∧ ¬ n < 0) ∧ sp.toNatClampNeg + n.toNatClampNeg ≤ (m_sh M a).2 ∧ dp.toNatClampNeg + n.toNatClampNeg ≤ (m_sh M b).2 ∧ 1 ≤ d)
    (kk : Ev l G d y (pc + 3) ls st (m_cpy M a b sp.toNatClampNeg dp.toNatClampNeg n.toNatClampNeg) bc bs Φ) : Ev l G d y pc ls (.int n :: .int dp :: .ref b :: .int sp :: .ref a :: st) M bc bs Φ :=
  Ev.copyI hd hl hnat hstat hini (na := (m_sh M a).2) (nb := (m_sh M b).2) (Prod.ext hsa rfl) (Prod.ext hsb rfl) h.1.1 h.1.2.1 h.1.2.2 h.2.1 h.2.2.1 hst h.2.2.2 kk
/-- the WORD at a place among all WORDS -/
theorem Ev.tallW {i : Int32} (hd : decode y.2.1 pc = .ok (.aaload, 1)) (hin : vp_in i 23) (kk : Ev l G d y (pc + 1) ls (.ref (i.toNatClampNeg + 1) :: st) M bc bs Φ) : Ev l G d y pc ls (.int i :: .ref 24 :: st) M bc bs Φ := by
  have h := in_nat hin
  have hall : ∀ j, j < 23 → (([.ref 1, .ref 2, .ref 3, .ref 4, .ref 5, .ref 6, .ref 7, .ref 8, .ref 9, .ref 10, .ref 11, .ref 12, .ref 13, .ref 14, .ref 15, .ref 16, .ref 17, .ref 18, .ref 19, .ref 20, .ref 21, .ref 22, .ref 23] : List Value).getD j .null) = .ref (j + 1) := by decide +kernel
  exact Ev.taldA (C := "BowingRow$Word") hd (by decide +kernel) hin (hall _ h) (by omega) kk
theorem Ev.tleast {i : Int32} (hd : decode y.2.1 pc = .ok (.iaload, 1)) (hin : vp_in i 5) (kk : Ev l G d y (pc + 1) ls (.int (cLo i.toNatClampNeg) :: st) M bc bs Φ) : Ev l G d y pc ls (.int i :: .ref 25 :: st) M bc bs Φ := by
  have hall : ∀ j, j < 5 → (([.int 0, .int 0, .int 0, .int 1, .int 1] : List Value).getD j .null) = .int (cLo j) := by decide +kernel
  exact Ev.taldI hd (by decide +kernel) hin (hall _ (in_nat hin)) kk
theorem Ev.tmost {i : Int32} (hd : decode y.2.1 pc = .ok (.iaload, 1)) (hin : vp_in i 5) (kk : Ev l G d y (pc + 1) ls (.int (cHi i.toNatClampNeg) :: st) M bc bs Φ) : Ev l G d y pc ls (.int i :: .ref 26 :: st) M bc bs Φ := by
  have hall : ∀ j, j < 5 → (([.int 999, .int 99, .int 9, .int 60, .int 999] : List Value).getD j .null) = .int (cHi j) := by decide +kernel
  exact Ev.taldI hd (by decide +kernel) hin (hall _ (in_nat hin)) kk
/-- a byte of the text of the WORD w -/
theorem Ev.ttext {i : Int32} {w : Nat} (hd : decode y.2.1 pc = .ok (.baload, 1)) (hw : 1 ≤ w ∧ w ≤ 23) (hin : vp_in i (wTx w).length) (kk : Ev l G d y (pc + 1) ls (.int ((wTx w).getD i.toNatClampNeg 0) :: st) M bc bs Φ) : Ev l G d y pc ls (.int i :: .ref (w + 60) :: st) M bc bs Φ := by
  refine Ev.taldB hd (wB_ok w hw) hin ?_ kk
  rw [List.getD_eq_getElem?_getD, List.getElem?_map, List.getD_eq_getElem?_getD, List.getElem?_eq_getElem (in_nat hin)]
  rfl
theorem Ev.tlenW {w : Nat} (hd : decode y.2.1 pc = .ok (.arraylength, 1)) (hw : 1 ≤ w ∧ w ≤ 23) (kk : Ev l G d y (pc + 1) ls (.int (Int32.ofNat (wTx w).length) :: st) M bc bs Φ) : Ev l G d y pc ls (.ref (w + 60) :: st) M bc bs Φ := Ev.tlen hd (wB_ok w hw) rfl kk
theorem Ev.tlenA (hd : decode y.2.1 pc = .ok (.arraylength, 1)) (kk : Ev l G d y (pc + 1) ls (.int 23 :: st) M bc bs Φ) : Ev l G d y pc ls (.ref 24 :: st) M bc bs Φ := Ev.tlen (ty := .object "BowingRow$Word") (n := 23) (vs := [.ref 1, .ref 2, .ref 3, .ref 4, .ref 5, .ref 6, .ref 7, .ref 8, .ref 9, .ref 10, .ref 11, .ref 12, .ref 13, .ref 14, .ref 15, .ref 16, .ref 17, .ref 18, .ref 19, .ref 20, .ref 21, .ref 22, .ref 23]) hd (by decide +kernel) (by decide) kk
/-- a call on the text of a WORD -/
theorem Ev.vcT {idx w n : Nat} {z : MR} (av st : List Value) {st0 : List Value} (hst0 : st0 = av.reverse ++ .ref (w + 30) :: st) (hd : decode y.2.1 pc = .ok (.invokevirtual idx, 3)) (hm : MOK z n) (hn : av.length = n) (hl : Cond.methodLink y.1.cls idx z.1 ∈ lwg) (hi : Cond.instanceMethod z.1 ∈ lwg) (hsel : Cond.selects z.1.cls z.1 z.1 ∈ lwg) (hz : z.1.cls = "java/lang/String") (hst : (st.map fun v => v.category).sum ≤ 8) (hw : 1 ≤ w ∧ w ≤ 23)
    (h : CallVC l G d y (pc + 3) ls st z (.ref (w + 30) :: av) M bc bs Φ) : Ev l G d y pc ls st0 M bc bs Φ := by
  obtain ⟨d2, bc2, bs2, bc3, bs3, Φ2, h1, h2, h3, h4, h5, h6⟩ := h
  subst hst0; subst h2; subst h3
  refine Ev.run (st := st) (Φ2 := Φ2) ?_ (fun n h => (m_bd_args h).2) h5 h6
  intro p e s m args below meth c mc ms H locs cells slots ad lsA F x3 hsz hb hcc hss
  obtain ⟨cell, c1, c2, c3, -⟩ := F.2.2.2.2.2.2.2.2.1.2.2.2.2.1 _ (wS_ok w hw)
  have hlt : G.2.2.2 (w + 30) < G.2.2.1.size := (Array.getElem?_eq_some_iff.mp c1).1
  have had : ad (w + 30) = G.2.2.2 (w + 30) := x3.2.2.2.2.2.2.1 _ (by omega)
  have c4 : H[ad (w + 30)]? = some cell := by rw [had, x3.2.2.2.2.2.1 _ hlt]; exact c1
  exact vx_runV (C := z.1.cls) (b := ad (w + 30)) (As := av.map (tr ad)) (rest := st.map (tr ad)) (Ts := lwg) ⟨F.1, F.2.1, F.2.2.2.1, F.2.2.2.2.1, F.2.2.2.2.2.1⟩ (h4 ad (m_bd_args hb).1) ⟨m_callB F.2.2.2.2.2.1 hm hl h1, F.2.2.2.2.2.1 _ hi, F.2.2.2.2.2.1 _ hsel⟩
    ⟨m_blind, ⟨cell, c4, c2, by rw [hz]; exact c3⟩, fun U hU hW => ⟨rfl, by rw [hU]; exact x3, F.2.2.2.2.2.2.2.2.1.warm hW⟩⟩ rfl (by rw [List.length_map]; exact hn) hsz (by show List.map (tr ad) (av.reverse ++ Value.ref (w + 30) :: st) = _; rw [List.map_append, List.map_reverse]; rfl) (lv_room (m_sum hst)) hd ⟨hcc, hss⟩
end MR_
theorem Ev.vcT2 {l : Launch} {G : Gx} {d : Nat} {y : MR} {pc : Nat} {ls : List Value} {M : Mm} {bc bs : Nat} {Φ : OutV → Mm → Prop} {idx a n : Nat} {z : MR} (av st : List Value) {st0 : List Value} (hst0 : st0 = av.reverse ++ .ref a :: st) (hd : decode y.2.1 pc = .ok (.invokevirtual idx, 3)) (hm : MOK z n) (hn : av.length = n) (hl : Cond.methodLink y.1.cls idx z.1 ∈ lwg) (hi : Cond.instanceMethod z.1 ∈ lwg) (hsel : Cond.selects z.1.cls z.1 z.1 ∈ lwg) (hz : z.1.cls = "java/lang/String") (hst : (st.map fun v => v.category).sum ≤ 8) (hw : 31 ≤ a ∧ a ≤ 53)
    (h : CallVC l G d y (pc + 3) ls st z (.ref a :: av) M bc bs Φ) : Ev l G d y pc ls st0 M bc bs Φ := by
  obtain ⟨w, rfl⟩ : ∃ w, a = w + 30 := ⟨a - 30, by omega⟩
  exact Ev.vcT av st hst0 hd hm hn hl hi hsel hz hst (by omega) h
end
section
theorem zz_last : True := trivial
end
