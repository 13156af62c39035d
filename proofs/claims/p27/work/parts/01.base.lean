-- ===== PART A: goes FIRST, ahead of the names: the tables' words, and 'selects' of the private methods out of them =====
/-- a private method of a class that the tables say can be made, by its rows of tables_1 -/
def lw_okq (q : MethodName × Nat) : Prop := (q.1.cls ≠ "java/lang/invoke/MethodHandle" ∧ q.1.cls ≠ "java/lang/invoke/VarHandle") ∧ Cond.instantiable q.1.cls q.2 ∈ tables_1 ∧ Cond.privateMethod q.1 ∈ tables_1 ∧ Cond.instanceMethod q.1 ∈ tables_1
theorem lw_p0 : lw_okq (⟨"HomesickStamps$Tape", "takeByte", "(I)V"⟩, 2) := ⟨⟨by decide +kernel, by decide +kernel⟩, List.mem_of_getElem? (i := 32) (by decide +kernel), List.mem_of_getElem? (i := 368) (by decide +kernel), List.mem_of_getElem? (i := 369) (by decide +kernel)⟩
theorem lw_p1 : lw_okq (⟨"HomesickStamps$LawReader", "readRule", "()Z"⟩, 6) := ⟨⟨by decide +kernel, by decide +kernel⟩, List.mem_of_getElem? (i := 283) (by decide +kernel), List.mem_of_getElem? (i := 406) (by decide +kernel), List.mem_of_getElem? (i := 407) (by decide +kernel)⟩
theorem lw_p2 : lw_okq (⟨"HomesickStamps$LawReader", "readSum", "(I)Z"⟩, 6) := ⟨⟨by decide +kernel, by decide +kernel⟩, List.mem_of_getElem? (i := 283) (by decide +kernel), List.mem_of_getElem? (i := 440) (by decide +kernel), List.mem_of_getElem? (i := 441) (by decide +kernel)⟩
theorem lw_p3 : lw_okq (⟨"HomesickStamps$LawReader", "readTerm", "(I)Z"⟩, 6) := ⟨⟨by decide +kernel, by decide +kernel⟩, List.mem_of_getElem? (i := 283) (by decide +kernel), List.mem_of_getElem? (i := 444) (by decide +kernel), List.mem_of_getElem? (i := 445) (by decide +kernel)⟩
theorem lw_p4 : lw_okq (⟨"HomesickStamps$LawReader", "readFactor", "(I)Z"⟩, 6) := ⟨⟨by decide +kernel, by decide +kernel⟩, List.mem_of_getElem? (i := 283) (by decide +kernel), List.mem_of_getElem? (i := 448) (by decide +kernel), List.mem_of_getElem? (i := 449) (by decide +kernel)⟩
theorem lw_p5 : lw_okq (⟨"HomesickStamps$LawReader", "readAny", "(I)Z"⟩, 6) := ⟨⟨by decide +kernel, by decide +kernel⟩, List.mem_of_getElem? (i := 283) (by decide +kernel), List.mem_of_getElem? (i := 564) (by decide +kernel), List.mem_of_getElem? (i := 565) (by decide +kernel)⟩
theorem lw_p6 : lw_okq (⟨"HomesickStamps$LawReader", "readAll", "(I)Z"⟩, 6) := ⟨⟨by decide +kernel, by decide +kernel⟩, List.mem_of_getElem? (i := 283) (by decide +kernel), List.mem_of_getElem? (i := 568) (by decide +kernel), List.mem_of_getElem? (i := 569) (by decide +kernel)⟩
theorem lw_p7 : lw_okq (⟨"HomesickStamps$LawReader", "readTest", "(I)Z"⟩, 6) := ⟨⟨by decide +kernel, by decide +kernel⟩, List.mem_of_getElem? (i := 283) (by decide +kernel), List.mem_of_getElem? (i := 572) (by decide +kernel), List.mem_of_getElem? (i := 573) (by decide +kernel)⟩
theorem lw_p8 : lw_okq (⟨"HomesickStamps$LawReader", "readComparison", "(I)Z"⟩, 6) := ⟨⟨by decide +kernel, by decide +kernel⟩, List.mem_of_getElem? (i := 283) (by decide +kernel), List.mem_of_getElem? (i := 576) (by decide +kernel), List.mem_of_getElem? (i := 577) (by decide +kernel)⟩
theorem lw_p9 : lw_okq (⟨"HomesickStamps$SheetReader", "readStamps", "(I)Z"⟩, 8) := ⟨⟨by decide +kernel, by decide +kernel⟩, List.mem_of_getElem? (i := 182) (by decide +kernel), List.mem_of_getElem? (i := 612) (by decide +kernel), List.mem_of_getElem? (i := 613) (by decide +kernel)⟩
theorem lw_p10 : lw_okq (⟨"HomesickStamps$SheetReader", "readOne", "(I)Z"⟩, 8) := ⟨⟨by decide +kernel, by decide +kernel⟩, List.mem_of_getElem? (i := 182) (by decide +kernel), List.mem_of_getElem? (i := 616) (by decide +kernel), List.mem_of_getElem? (i := 617) (by decide +kernel)⟩
theorem lw_p11 : lw_okq (⟨"HomesickStamps$SheetReader", "readRound", "(III)Z"⟩, 8) := ⟨⟨by decide +kernel, by decide +kernel⟩, List.mem_of_getElem? (i := 182) (by decide +kernel), List.mem_of_getElem? (i := 630) (by decide +kernel), List.mem_of_getElem? (i := 631) (by decide +kernel)⟩
theorem lw_p12 : lw_okq (⟨"HomesickStamps$SheetReader", "add", "(II)V"⟩, 8) := ⟨⟨by decide +kernel, by decide +kernel⟩, List.mem_of_getElem? (i := 182) (by decide +kernel), List.mem_of_getElem? (i := 637) (by decide +kernel), List.mem_of_getElem? (i := 638) (by decide +kernel)⟩
theorem lw_p13 : lw_okq (⟨"HomesickStamps$SheetReader", "readStamp", "(II)Z"⟩, 8) := ⟨⟨by decide +kernel, by decide +kernel⟩, List.mem_of_getElem? (i := 182) (by decide +kernel), List.mem_of_getElem? (i := 641) (by decide +kernel), List.mem_of_getElem? (i := 642) (by decide +kernel)⟩
theorem lw_p14 : lw_okq (⟨"HomesickStamps$PostReader", "readLine", "()Z"⟩, 11) := ⟨⟨by decide +kernel, by decide +kernel⟩, List.mem_of_getElem? (i := 216) (by decide +kernel), List.mem_of_getElem? (i := 687) (by decide +kernel), List.mem_of_getElem? (i := 688) (by decide +kernel)⟩
theorem lw_p15 : lw_okq (⟨"HomesickStamps$PostReader", "readPlace", "()I"⟩, 11) := ⟨⟨by decide +kernel, by decide +kernel⟩, List.mem_of_getElem? (i := 216) (by decide +kernel), List.mem_of_getElem? (i := 704) (by decide +kernel), List.mem_of_getElem? (i := 705) (by decide +kernel)⟩
def lw_privs_1 : List (MethodName × Nat) := [(⟨"HomesickStamps$Tape", "takeByte", "(I)V"⟩, 2), (⟨"HomesickStamps$LawReader", "readRule", "()Z"⟩, 6), (⟨"HomesickStamps$LawReader", "readSum", "(I)Z"⟩, 6), (⟨"HomesickStamps$LawReader", "readTerm", "(I)Z"⟩, 6), (⟨"HomesickStamps$LawReader", "readFactor", "(I)Z"⟩, 6), (⟨"HomesickStamps$LawReader", "readAny", "(I)Z"⟩, 6), (⟨"HomesickStamps$LawReader", "readAll", "(I)Z"⟩, 6), (⟨"HomesickStamps$LawReader", "readTest", "(I)Z"⟩, 6), (⟨"HomesickStamps$LawReader", "readComparison", "(I)Z"⟩, 6), (⟨"HomesickStamps$SheetReader", "readStamps", "(I)Z"⟩, 8), (⟨"HomesickStamps$SheetReader", "readOne", "(I)Z"⟩, 8), (⟨"HomesickStamps$SheetReader", "readRound", "(III)Z"⟩, 8), (⟨"HomesickStamps$SheetReader", "add", "(II)V"⟩, 8), (⟨"HomesickStamps$SheetReader", "readStamp", "(II)Z"⟩, 8), (⟨"HomesickStamps$PostReader", "readLine", "()Z"⟩, 11), (⟨"HomesickStamps$PostReader", "readPlace", "()I"⟩, 11)]
theorem lw_r1 : ∀ q ∈ lw_privs_1, lw_okq q := List.forall_mem_cons.mpr ⟨lw_p0, List.forall_mem_cons.mpr ⟨lw_p1, List.forall_mem_cons.mpr ⟨lw_p2, List.forall_mem_cons.mpr ⟨lw_p3, List.forall_mem_cons.mpr ⟨lw_p4, List.forall_mem_cons.mpr ⟨lw_p5, List.forall_mem_cons.mpr ⟨lw_p6, List.forall_mem_cons.mpr ⟨lw_p7, List.forall_mem_cons.mpr ⟨lw_p8, List.forall_mem_cons.mpr ⟨lw_p9, List.forall_mem_cons.mpr ⟨lw_p10, List.forall_mem_cons.mpr ⟨lw_p11, List.forall_mem_cons.mpr ⟨lw_p12, List.forall_mem_cons.mpr ⟨lw_p13, List.forall_mem_cons.mpr ⟨lw_p14, List.forall_mem_cons.mpr ⟨lw_p15, fun _ h => absurd h List.not_mem_nil⟩⟩⟩⟩⟩⟩⟩⟩⟩⟩⟩⟩⟩⟩⟩⟩
theorem lw_p16 : lw_okq (⟨"HomesickStamps$PostReader", "add", "(III)Z"⟩, 11) := ⟨⟨by decide +kernel, by decide +kernel⟩, List.mem_of_getElem? (i := 216) (by decide +kernel), List.mem_of_getElem? (i := 714) (by decide +kernel), List.mem_of_getElem? (i := 715) (by decide +kernel)⟩
theorem lw_p17 : lw_okq (⟨"HomesickStamps$PostReader", "readOrder", "(II)Z"⟩, 11) := ⟨⟨by decide +kernel, by decide +kernel⟩, List.mem_of_getElem? (i := 216) (by decide +kernel), List.mem_of_getElem? (i := 718) (by decide +kernel), List.mem_of_getElem? (i := 719) (by decide +kernel)⟩
theorem lw_p18 : lw_okq (⟨"HomesickStamps$Clerk", "passLetter", "(LHomesickStamps$Law;LHomesickStamps$Letters;I)I"⟩, 6) := ⟨⟨by decide +kernel, by decide +kernel⟩, List.mem_of_getElem? (i := 113) (by decide +kernel), List.mem_of_getElem? (i := 784) (by decide +kernel), List.mem_of_getElem? (i := 785) (by decide +kernel)⟩
theorem lw_p19 : lw_okq (⟨"HomesickStamps$Clerk", "pull", "(LHomesickStamps$Law;LHomesickStamps$Letters;II)V"⟩, 6) := ⟨⟨by decide +kernel, by decide +kernel⟩, List.mem_of_getElem? (i := 113) (by decide +kernel), List.mem_of_getElem? (i := 814) (by decide +kernel), List.mem_of_getElem? (i := 815) (by decide +kernel)⟩
theorem lw_p20 : lw_okq (⟨"HomesickStamps$Clerk", "learn", "(LHomesickStamps$Letters;II)V"⟩, 6) := ⟨⟨by decide +kernel, by decide +kernel⟩, List.mem_of_getElem? (i := 113) (by decide +kernel), List.mem_of_getElem? (i := 818) (by decide +kernel), List.mem_of_getElem? (i := 819) (by decide +kernel)⟩
theorem lw_p21 : lw_okq (⟨"HomesickStamps$Law", "reckon", "(I[I)I"⟩, 10) := ⟨⟨by decide +kernel, by decide +kernel⟩, List.mem_of_getElem? (i := 246) (by decide +kernel), List.mem_of_getElem? (i := 846) (by decide +kernel), List.mem_of_getElem? (i := 847) (by decide +kernel)⟩
theorem lw_p22 : lw_okq (⟨"HomesickStamps$Law", "doStep", "(I[I)I"⟩, 10) := ⟨⟨by decide +kernel, by decide +kernel⟩, List.mem_of_getElem? (i := 246) (by decide +kernel), List.mem_of_getElem? (i := 850) (by decide +kernel), List.mem_of_getElem? (i := 851) (by decide +kernel)⟩
theorem lw_p23 : lw_okq (⟨"HomesickStamps$Law", "pop", "()I"⟩, 10) := ⟨⟨by decide +kernel, by decide +kernel⟩, List.mem_of_getElem? (i := 246) (by decide +kernel), List.mem_of_getElem? (i := 854) (by decide +kernel), List.mem_of_getElem? (i := 855) (by decide +kernel)⟩
theorem lw_p24 : lw_okq (⟨"HomesickStamps$Law", "push", "(I)V"⟩, 10) := ⟨⟨by decide +kernel, by decide +kernel⟩, List.mem_of_getElem? (i := 246) (by decide +kernel), List.mem_of_getElem? (i := 858) (by decide +kernel), List.mem_of_getElem? (i := 859) (by decide +kernel)⟩
theorem lw_p25 : lw_okq (⟨"HomesickStamps$Law", "joined", "(III)I"⟩, 10) := ⟨⟨by decide +kernel, by decide +kernel⟩, List.mem_of_getElem? (i := 246) (by decide +kernel), List.mem_of_getElem? (i := 862) (by decide +kernel), List.mem_of_getElem? (i := 863) (by decide +kernel)⟩
theorem lw_p26 : lw_okq (⟨"HomesickStamps$Clerk", "step", "(LHomesickStamps$Letters;I)I"⟩, 6) := ⟨⟨by decide +kernel, by decide +kernel⟩, List.mem_of_getElem? (i := 113) (by decide +kernel), List.mem_of_getElem? (i := 885) (by decide +kernel), List.mem_of_getElem? (i := 886) (by decide +kernel)⟩
theorem lw_p27 : lw_okq (⟨"HomesickStamps", "canBeTried", "(I)Z"⟩, 15) := ⟨⟨by decide +kernel, by decide +kernel⟩, List.mem_of_getElem? (i := 24) (by decide +kernel), List.mem_of_getElem? (i := 934) (by decide +kernel), List.mem_of_getElem? (i := 935) (by decide +kernel)⟩
theorem lw_p28 : lw_okq (⟨"HomesickStamps", "plainPull", "(IZ)I"⟩, 15) := ⟨⟨by decide +kernel, by decide +kernel⟩, List.mem_of_getElem? (i := 24) (by decide +kernel), List.mem_of_getElem? (i := 967) (by decide +kernel), List.mem_of_getElem? (i := 968) (by decide +kernel)⟩
theorem lw_p29 : lw_okq (⟨"HomesickStamps", "markSeen", "(I)V"⟩, 15) := ⟨⟨by decide +kernel, by decide +kernel⟩, List.mem_of_getElem? (i := 24) (by decide +kernel), List.mem_of_getElem? (i := 1000) (by decide +kernel), List.mem_of_getElem? (i := 1001) (by decide +kernel)⟩
theorem lw_p30 : lw_okq (⟨"HomesickStamps", "wasSeen", "(I)Z"⟩, 15) := ⟨⟨by decide +kernel, by decide +kernel⟩, List.mem_of_getElem? (i := 24) (by decide +kernel), List.mem_of_getElem? (i := 1004) (by decide +kernel), List.mem_of_getElem? (i := 1005) (by decide +kernel)⟩
theorem lw_p31 : lw_okq (⟨"HomesickStamps", "grainsFrom", "(II)I"⟩, 15) := ⟨⟨by decide +kernel, by decide +kernel⟩, List.mem_of_getElem? (i := 24) (by decide +kernel), List.mem_of_getElem? (i := 1012) (by decide +kernel), List.mem_of_getElem? (i := 1013) (by decide +kernel)⟩
def lw_privs_2 : List (MethodName × Nat) := [(⟨"HomesickStamps$PostReader", "add", "(III)Z"⟩, 11), (⟨"HomesickStamps$PostReader", "readOrder", "(II)Z"⟩, 11), (⟨"HomesickStamps$Clerk", "passLetter", "(LHomesickStamps$Law;LHomesickStamps$Letters;I)I"⟩, 6), (⟨"HomesickStamps$Clerk", "pull", "(LHomesickStamps$Law;LHomesickStamps$Letters;II)V"⟩, 6), (⟨"HomesickStamps$Clerk", "learn", "(LHomesickStamps$Letters;II)V"⟩, 6), (⟨"HomesickStamps$Law", "reckon", "(I[I)I"⟩, 10), (⟨"HomesickStamps$Law", "doStep", "(I[I)I"⟩, 10), (⟨"HomesickStamps$Law", "pop", "()I"⟩, 10), (⟨"HomesickStamps$Law", "push", "(I)V"⟩, 10), (⟨"HomesickStamps$Law", "joined", "(III)I"⟩, 10), (⟨"HomesickStamps$Clerk", "step", "(LHomesickStamps$Letters;I)I"⟩, 6), (⟨"HomesickStamps", "canBeTried", "(I)Z"⟩, 15), (⟨"HomesickStamps", "plainPull", "(IZ)I"⟩, 15), (⟨"HomesickStamps", "markSeen", "(I)V"⟩, 15), (⟨"HomesickStamps", "wasSeen", "(I)Z"⟩, 15), (⟨"HomesickStamps", "grainsFrom", "(II)I"⟩, 15)]
theorem lw_r2 : ∀ q ∈ lw_privs_2, lw_okq q := List.forall_mem_cons.mpr ⟨lw_p16, List.forall_mem_cons.mpr ⟨lw_p17, List.forall_mem_cons.mpr ⟨lw_p18, List.forall_mem_cons.mpr ⟨lw_p19, List.forall_mem_cons.mpr ⟨lw_p20, List.forall_mem_cons.mpr ⟨lw_p21, List.forall_mem_cons.mpr ⟨lw_p22, List.forall_mem_cons.mpr ⟨lw_p23, List.forall_mem_cons.mpr ⟨lw_p24, List.forall_mem_cons.mpr ⟨lw_p25, List.forall_mem_cons.mpr ⟨lw_p26, List.forall_mem_cons.mpr ⟨lw_p27, List.forall_mem_cons.mpr ⟨lw_p28, List.forall_mem_cons.mpr ⟨lw_p29, List.forall_mem_cons.mpr ⟨lw_p30, List.forall_mem_cons.mpr ⟨lw_p31, fun _ h => absurd h List.not_mem_nil⟩⟩⟩⟩⟩⟩⟩⟩⟩⟩⟩⟩⟩⟩⟩⟩
theorem lw_p32 : lw_okq (⟨"HomesickStamps", "gatherCrew", "(I)Z"⟩, 15) := ⟨⟨by decide +kernel, by decide +kernel⟩, List.mem_of_getElem? (i := 24) (by decide +kernel), List.mem_of_getElem? (i := 1024) (by decide +kernel), List.mem_of_getElem? (i := 1025) (by decide +kernel)⟩
theorem lw_p33 : lw_okq (⟨"HomesickStamps$Crew", "placeBehind", "(III)I"⟩, 5) := ⟨⟨by decide +kernel, by decide +kernel⟩, List.mem_of_getElem? (i := 138) (by decide +kernel), List.mem_of_getElem? (i := 1041) (by decide +kernel), List.mem_of_getElem? (i := 1042) (by decide +kernel)⟩
theorem lw_p34 : lw_okq (⟨"HomesickStamps$Crew", "wayFrom", "(II)I"⟩, 5) := ⟨⟨by decide +kernel, by decide +kernel⟩, List.mem_of_getElem? (i := 138) (by decide +kernel), List.mem_of_getElem? (i := 1045) (by decide +kernel), List.mem_of_getElem? (i := 1046) (by decide +kernel)⟩
theorem lw_p35 : lw_okq (⟨"HomesickStamps$Crew", "pullTogether", "(II)V"⟩, 5) := ⟨⟨by decide +kernel, by decide +kernel⟩, List.mem_of_getElem? (i := 138) (by decide +kernel), List.mem_of_getElem? (i := 1049) (by decide +kernel), List.mem_of_getElem? (i := 1050) (by decide +kernel)⟩
theorem lw_p36 : lw_okq (⟨"HomesickStamps$Crew", "hangs", "(II)Z"⟩, 5) := ⟨⟨by decide +kernel, by decide +kernel⟩, List.mem_of_getElem? (i := 138) (by decide +kernel), List.mem_of_getElem? (i := 1081) (by decide +kernel), List.mem_of_getElem? (i := 1082) (by decide +kernel)⟩
theorem lw_p37 : lw_okq (⟨"HomesickStamps", "fitsAllPulls", "(II)Z"⟩, 15) := ⟨⟨by decide +kernel, by decide +kernel⟩, List.mem_of_getElem? (i := 24) (by decide +kernel), List.mem_of_getElem? (i := 1102) (by decide +kernel), List.mem_of_getElem? (i := 1103) (by decide +kernel)⟩
theorem lw_p38 : lw_okq (⟨"HomesickStamps$Riddles", "weightOf", "(II)I"⟩, 5) := ⟨⟨by decide +kernel, by decide +kernel⟩, List.mem_of_getElem? (i := 160) (by decide +kernel), List.mem_of_getElem? (i := 1120) (by decide +kernel), List.mem_of_getElem? (i := 1121) (by decide +kernel)⟩
theorem lw_p39 : lw_okq (⟨"HomesickStamps$Riddles", "isBetterLoad", "(II)Z"⟩, 5) := ⟨⟨by decide +kernel, by decide +kernel⟩, List.mem_of_getElem? (i := 160) (by decide +kernel), List.mem_of_getElem? (i := 1142) (by decide +kernel), List.mem_of_getElem? (i := 1143) (by decide +kernel)⟩
theorem lw_p40 : lw_okq (⟨"HomesickStamps$Riddles", "rowsNameEachOnce", "(I)Z"⟩, 5) := ⟨⟨by decide +kernel, by decide +kernel⟩, List.mem_of_getElem? (i := 160) (by decide +kernel), List.mem_of_getElem? (i := 1177) (by decide +kernel), List.mem_of_getElem? (i := 1178) (by decide +kernel)⟩
theorem lw_p41 : lw_okq (⟨"HomesickStamps$Riddles", "changeInRing", "(II)I"⟩, 5) := ⟨⟨by decide +kernel, by decide +kernel⟩, List.mem_of_getElem? (i := 160) (by decide +kernel), List.mem_of_getElem? (i := 1181) (by decide +kernel), List.mem_of_getElem? (i := 1182) (by decide +kernel)⟩
theorem lw_p42 : lw_okq (⟨"HomesickStamps$Riddles", "likedMost", "(III)I"⟩, 5) := ⟨⟨by decide +kernel, by decide +kernel⟩, List.mem_of_getElem? (i := 160) (by decide +kernel), List.mem_of_getElem? (i := 1189) (by decide +kernel), List.mem_of_getElem? (i := 1190) (by decide +kernel)⟩
theorem lw_p43 : lw_okq (⟨"HomesickStampsModel", "types", "(I)V"⟩, 53) := ⟨⟨by decide +kernel, by decide +kernel⟩, List.mem_of_getElem? (i := 1241) (by decide +kernel), List.mem_of_getElem? (i := 1418) (by decide +kernel), List.mem_of_getElem? (i := 1419) (by decide +kernel)⟩
theorem lw_p44 : lw_okq (⟨"HomesickStampsModel", "beginsText", "(I)V"⟩, 53) := ⟨⟨by decide +kernel, by decide +kernel⟩, List.mem_of_getElem? (i := 1241) (by decide +kernel), List.mem_of_getElem? (i := 1426) (by decide +kernel), List.mem_of_getElem? (i := 1427) (by decide +kernel)⟩
theorem lw_p45 : lw_okq (⟨"HomesickStampsModel", "readsRule", "()Z"⟩, 53) := ⟨⟨by decide +kernel, by decide +kernel⟩, List.mem_of_getElem? (i := 1241) (by decide +kernel), List.mem_of_getElem? (i := 1430) (by decide +kernel), List.mem_of_getElem? (i := 1431) (by decide +kernel)⟩
theorem lw_p46 : lw_okq (⟨"HomesickStampsModel", "here", "()I"⟩, 53) := ⟨⟨by decide +kernel, by decide +kernel⟩, List.mem_of_getElem? (i := 1241) (by decide +kernel), List.mem_of_getElem? (i := 1434) (by decide +kernel), List.mem_of_getElem? (i := 1435) (by decide +kernel)⟩
theorem lw_p47 : lw_okq (⟨"HomesickStampsModel", "wrongAt", "(II)Z"⟩, 53) := ⟨⟨by decide +kernel, by decide +kernel⟩, List.mem_of_getElem? (i := 1241) (by decide +kernel), List.mem_of_getElem? (i := 1438) (by decide +kernel), List.mem_of_getElem? (i := 1439) (by decide +kernel)⟩
def lw_privs_3 : List (MethodName × Nat) := [(⟨"HomesickStamps", "gatherCrew", "(I)Z"⟩, 15), (⟨"HomesickStamps$Crew", "placeBehind", "(III)I"⟩, 5), (⟨"HomesickStamps$Crew", "wayFrom", "(II)I"⟩, 5), (⟨"HomesickStamps$Crew", "pullTogether", "(II)V"⟩, 5), (⟨"HomesickStamps$Crew", "hangs", "(II)Z"⟩, 5), (⟨"HomesickStamps", "fitsAllPulls", "(II)Z"⟩, 15), (⟨"HomesickStamps$Riddles", "weightOf", "(II)I"⟩, 5), (⟨"HomesickStamps$Riddles", "isBetterLoad", "(II)Z"⟩, 5), (⟨"HomesickStamps$Riddles", "rowsNameEachOnce", "(I)Z"⟩, 5), (⟨"HomesickStamps$Riddles", "changeInRing", "(II)I"⟩, 5), (⟨"HomesickStamps$Riddles", "likedMost", "(III)I"⟩, 5), (⟨"HomesickStampsModel", "types", "(I)V"⟩, 53), (⟨"HomesickStampsModel", "beginsText", "(I)V"⟩, 53), (⟨"HomesickStampsModel", "readsRule", "()Z"⟩, 53), (⟨"HomesickStampsModel", "here", "()I"⟩, 53), (⟨"HomesickStampsModel", "wrongAt", "(II)Z"⟩, 53)]
theorem lw_r3 : ∀ q ∈ lw_privs_3, lw_okq q := List.forall_mem_cons.mpr ⟨lw_p32, List.forall_mem_cons.mpr ⟨lw_p33, List.forall_mem_cons.mpr ⟨lw_p34, List.forall_mem_cons.mpr ⟨lw_p35, List.forall_mem_cons.mpr ⟨lw_p36, List.forall_mem_cons.mpr ⟨lw_p37, List.forall_mem_cons.mpr ⟨lw_p38, List.forall_mem_cons.mpr ⟨lw_p39, List.forall_mem_cons.mpr ⟨lw_p40, List.forall_mem_cons.mpr ⟨lw_p41, List.forall_mem_cons.mpr ⟨lw_p42, List.forall_mem_cons.mpr ⟨lw_p43, List.forall_mem_cons.mpr ⟨lw_p44, List.forall_mem_cons.mpr ⟨lw_p45, List.forall_mem_cons.mpr ⟨lw_p46, List.forall_mem_cons.mpr ⟨lw_p47, fun _ h => absurd h List.not_mem_nil⟩⟩⟩⟩⟩⟩⟩⟩⟩⟩⟩⟩⟩⟩⟩⟩
theorem lw_p48 : lw_okq (⟨"HomesickStampsModel", "readsSum", "()Z"⟩, 53) := ⟨⟨by decide +kernel, by decide +kernel⟩, List.mem_of_getElem? (i := 1241) (by decide +kernel), List.mem_of_getElem? (i := 1442) (by decide +kernel), List.mem_of_getElem? (i := 1443) (by decide +kernel)⟩
theorem lw_p49 : lw_okq (⟨"HomesickStampsModel", "readsFactor", "()Z"⟩, 53) := ⟨⟨by decide +kernel, by decide +kernel⟩, List.mem_of_getElem? (i := 1241) (by decide +kernel), List.mem_of_getElem? (i := 1446) (by decide +kernel), List.mem_of_getElem? (i := 1447) (by decide +kernel)⟩
theorem lw_p50 : lw_okq (⟨"HomesickStampsModel", "opens", "(I)Z"⟩, 53) := ⟨⟨by decide +kernel, by decide +kernel⟩, List.mem_of_getElem? (i := 1241) (by decide +kernel), List.mem_of_getElem? (i := 1450) (by decide +kernel), List.mem_of_getElem? (i := 1451) (by decide +kernel)⟩
theorem lw_p51 : lw_okq (⟨"HomesickStampsModel", "isDigit", "()Z"⟩, 53) := ⟨⟨by decide +kernel, by decide +kernel⟩, List.mem_of_getElem? (i := 1241) (by decide +kernel), List.mem_of_getElem? (i := 1455) (by decide +kernel), List.mem_of_getElem? (i := 1456) (by decide +kernel)⟩
theorem lw_p52 : lw_okq (⟨"HomesickStampsModel", "readsNumber", "()Z"⟩, 53) := ⟨⟨by decide +kernel, by decide +kernel⟩, List.mem_of_getElem? (i := 1241) (by decide +kernel), List.mem_of_getElem? (i := 1459) (by decide +kernel), List.mem_of_getElem? (i := 1460) (by decide +kernel)⟩
theorem lw_p53 : lw_okq (⟨"HomesickStampsModel", "notes", "(II)V"⟩, 53) := ⟨⟨by decide +kernel, by decide +kernel⟩, List.mem_of_getElem? (i := 1241) (by decide +kernel), List.mem_of_getElem? (i := 1463) (by decide +kernel), List.mem_of_getElem? (i := 1464) (by decide +kernel)⟩
theorem lw_p54 : lw_okq (⟨"HomesickStampsModel", "closesSums", "(Z)V"⟩, 53) := ⟨⟨by decide +kernel, by decide +kernel⟩, List.mem_of_getElem? (i := 1241) (by decide +kernel), List.mem_of_getElem? (i := 1473) (by decide +kernel), List.mem_of_getElem? (i := 1474) (by decide +kernel)⟩
theorem lw_p55 : lw_okq (⟨"HomesickStampsModel", "waitTop", "()I"⟩, 53) := ⟨⟨by decide +kernel, by decide +kernel⟩, List.mem_of_getElem? (i := 1241) (by decide +kernel), List.mem_of_getElem? (i := 1477) (by decide +kernel), List.mem_of_getElem? (i := 1478) (by decide +kernel)⟩
theorem lw_p56 : lw_okq (⟨"HomesickStampsModel", "hasOpenSum", "(I)Z"⟩, 53) := ⟨⟨by decide +kernel, by decide +kernel⟩, List.mem_of_getElem? (i := 1241) (by decide +kernel), List.mem_of_getElem? (i := 1481) (by decide +kernel), List.mem_of_getElem? (i := 1482) (by decide +kernel)⟩
theorem lw_p57 : lw_okq (⟨"HomesickStampsModel", "readsCondition", "()Z"⟩, 53) := ⟨⟨by decide +kernel, by decide +kernel⟩, List.mem_of_getElem? (i := 1241) (by decide +kernel), List.mem_of_getElem? (i := 1485) (by decide +kernel), List.mem_of_getElem? (i := 1486) (by decide +kernel)⟩
theorem lw_p58 : lw_okq (⟨"HomesickStampsModel", "readsCompared", "()Z"⟩, 53) := ⟨⟨by decide +kernel, by decide +kernel⟩, List.mem_of_getElem? (i := 1241) (by decide +kernel), List.mem_of_getElem? (i := 1489) (by decide +kernel), List.mem_of_getElem? (i := 1490) (by decide +kernel)⟩
theorem lw_p59 : lw_okq (⟨"HomesickStampsModel", "endsPiece", "()V"⟩, 53) := ⟨⟨by decide +kernel, by decide +kernel⟩, List.mem_of_getElem? (i := 1241) (by decide +kernel), List.mem_of_getElem? (i := 1493) (by decide +kernel), List.mem_of_getElem? (i := 1494) (by decide +kernel)⟩
theorem lw_p60 : lw_okq (⟨"HomesickStampsModel", "lands", "(Z)V"⟩, 53) := ⟨⟨by decide +kernel, by decide +kernel⟩, List.mem_of_getElem? (i := 1241) (by decide +kernel), List.mem_of_getElem? (i := 1497) (by decide +kernel), List.mem_of_getElem? (i := 1498) (by decide +kernel)⟩
theorem lw_p61 : lw_okq (⟨"HomesickStampsModel", "jumps", "(I)V"⟩, 53) := ⟨⟨by decide +kernel, by decide +kernel⟩, List.mem_of_getElem? (i := 1241) (by decide +kernel), List.mem_of_getElem? (i := 1501) (by decide +kernel), List.mem_of_getElem? (i := 1502) (by decide +kernel)⟩
theorem lw_p62 : lw_okq (⟨"HomesickStampsModel", "takes", "(I)Z"⟩, 53) := ⟨⟨by decide +kernel, by decide +kernel⟩, List.mem_of_getElem? (i := 1241) (by decide +kernel), List.mem_of_getElem? (i := 1505) (by decide +kernel), List.mem_of_getElem? (i := 1506) (by decide +kernel)⟩
theorem lw_p63 : lw_okq (⟨"HomesickStampsModel", "readsStamp", "()Z"⟩, 53) := ⟨⟨by decide +kernel, by decide +kernel⟩, List.mem_of_getElem? (i := 1241) (by decide +kernel), List.mem_of_getElem? (i := 1513) (by decide +kernel), List.mem_of_getElem? (i := 1514) (by decide +kernel)⟩
def lw_privs_4 : List (MethodName × Nat) := [(⟨"HomesickStampsModel", "readsSum", "()Z"⟩, 53), (⟨"HomesickStampsModel", "readsFactor", "()Z"⟩, 53), (⟨"HomesickStampsModel", "opens", "(I)Z"⟩, 53), (⟨"HomesickStampsModel", "isDigit", "()Z"⟩, 53), (⟨"HomesickStampsModel", "readsNumber", "()Z"⟩, 53), (⟨"HomesickStampsModel", "notes", "(II)V"⟩, 53), (⟨"HomesickStampsModel", "closesSums", "(Z)V"⟩, 53), (⟨"HomesickStampsModel", "waitTop", "()I"⟩, 53), (⟨"HomesickStampsModel", "hasOpenSum", "(I)Z"⟩, 53), (⟨"HomesickStampsModel", "readsCondition", "()Z"⟩, 53), (⟨"HomesickStampsModel", "readsCompared", "()Z"⟩, 53), (⟨"HomesickStampsModel", "endsPiece", "()V"⟩, 53), (⟨"HomesickStampsModel", "lands", "(Z)V"⟩, 53), (⟨"HomesickStampsModel", "jumps", "(I)V"⟩, 53), (⟨"HomesickStampsModel", "takes", "(I)Z"⟩, 53), (⟨"HomesickStampsModel", "readsStamp", "()Z"⟩, 53)]
theorem lw_r4 : ∀ q ∈ lw_privs_4, lw_okq q := List.forall_mem_cons.mpr ⟨lw_p48, List.forall_mem_cons.mpr ⟨lw_p49, List.forall_mem_cons.mpr ⟨lw_p50, List.forall_mem_cons.mpr ⟨lw_p51, List.forall_mem_cons.mpr ⟨lw_p52, List.forall_mem_cons.mpr ⟨lw_p53, List.forall_mem_cons.mpr ⟨lw_p54, List.forall_mem_cons.mpr ⟨lw_p55, List.forall_mem_cons.mpr ⟨lw_p56, List.forall_mem_cons.mpr ⟨lw_p57, List.forall_mem_cons.mpr ⟨lw_p58, List.forall_mem_cons.mpr ⟨lw_p59, List.forall_mem_cons.mpr ⟨lw_p60, List.forall_mem_cons.mpr ⟨lw_p61, List.forall_mem_cons.mpr ⟨lw_p62, List.forall_mem_cons.mpr ⟨lw_p63, fun _ h => absurd h List.not_mem_nil⟩⟩⟩⟩⟩⟩⟩⟩⟩⟩⟩⟩⟩⟩⟩⟩
theorem lw_p64 : lw_okq (⟨"HomesickStampsModel", "readsTimes", "()V"⟩, 53) := ⟨⟨by decide +kernel, by decide +kernel⟩, List.mem_of_getElem? (i := 1241) (by decide +kernel), List.mem_of_getElem? (i := 1517) (by decide +kernel), List.mem_of_getElem? (i := 1518) (by decide +kernel)⟩
theorem lw_p65 : lw_okq (⟨"HomesickStampsModel", "repeats", "(III)Z"⟩, 53) := ⟨⟨by decide +kernel, by decide +kernel⟩, List.mem_of_getElem? (i := 1241) (by decide +kernel), List.mem_of_getElem? (i := 1521) (by decide +kernel), List.mem_of_getElem? (i := 1522) (by decide +kernel)⟩
theorem lw_p66 : lw_okq (⟨"HomesickStampsModel", "readsLine", "()Z"⟩, 53) := ⟨⟨by decide +kernel, by decide +kernel⟩, List.mem_of_getElem? (i := 1241) (by decide +kernel), List.mem_of_getElem? (i := 1532) (by decide +kernel), List.mem_of_getElem? (i := 1533) (by decide +kernel)⟩
theorem lw_p67 : lw_okq (⟨"HomesickStampsModel", "readsWall", "()Z"⟩, 53) := ⟨⟨by decide +kernel, by decide +kernel⟩, List.mem_of_getElem? (i := 1241) (by decide +kernel), List.mem_of_getElem? (i := 1536) (by decide +kernel), List.mem_of_getElem? (i := 1537) (by decide +kernel)⟩
theorem lw_p68 : lw_okq (⟨"HomesickStampsModel", "readsSpot", "()Z"⟩, 53) := ⟨⟨by decide +kernel, by decide +kernel⟩, List.mem_of_getElem? (i := 1241) (by decide +kernel), List.mem_of_getElem? (i := 1540) (by decide +kernel), List.mem_of_getElem? (i := 1541) (by decide +kernel)⟩
theorem lw_p69 : lw_okq (⟨"HomesickStampsModel", "readsWithin", "(II)Z"⟩, 53) := ⟨⟨by decide +kernel, by decide +kernel⟩, List.mem_of_getElem? (i := 1241) (by decide +kernel), List.mem_of_getElem? (i := 1544) (by decide +kernel), List.mem_of_getElem? (i := 1545) (by decide +kernel)⟩
theorem lw_p70 : lw_okq (⟨"HomesickStampsModel", "readsLetter", "(I)Z"⟩, 53) := ⟨⟨by decide +kernel, by decide +kernel⟩, List.mem_of_getElem? (i := 1241) (by decide +kernel), List.mem_of_getElem? (i := 1548) (by decide +kernel), List.mem_of_getElem? (i := 1549) (by decide +kernel)⟩
theorem lw_p71 : lw_okq (⟨"HomesickStampsModel", "isTold", "(I)Z"⟩, 53) := ⟨⟨by decide +kernel, by decide +kernel⟩, List.mem_of_getElem? (i := 1241) (by decide +kernel), List.mem_of_getElem? (i := 1552) (by decide +kernel), List.mem_of_getElem? (i := 1553) (by decide +kernel)⟩
theorem lw_p72 : lw_okq (⟨"HomesickStampsModel", "daysGo", "(I)V"⟩, 53) := ⟨⟨by decide +kernel, by decide +kernel⟩, List.mem_of_getElem? (i := 1241) (by decide +kernel), List.mem_of_getElem? (i := 1560) (by decide +kernel), List.mem_of_getElem? (i := 1561) (by decide +kernel)⟩
theorem lw_p73 : lw_okq (⟨"HomesickStampsModel", "dayGoes", "()V"⟩, 53) := ⟨⟨by decide +kernel, by decide +kernel⟩, List.mem_of_getElem? (i := 1241) (by decide +kernel), List.mem_of_getElem? (i := 1564) (by decide +kernel), List.mem_of_getElem? (i := 1565) (by decide +kernel)⟩
theorem lw_p74 : lw_okq (⟨"HomesickStampsModel", "letterGoes", "(I)V"⟩, 53) := ⟨⟨by decide +kernel, by decide +kernel⟩, List.mem_of_getElem? (i := 1241) (by decide +kernel), List.mem_of_getElem? (i := 1568) (by decide +kernel), List.mem_of_getElem? (i := 1569) (by decide +kernel)⟩
theorem lw_p75 : lw_okq (⟨"HomesickStampsModel", "sticks", "(II)Z"⟩, 53) := ⟨⟨by decide +kernel, by decide +kernel⟩, List.mem_of_getElem? (i := 1241) (by decide +kernel), List.mem_of_getElem? (i := 1573) (by decide +kernel), List.mem_of_getElem? (i := 1574) (by decide +kernel)⟩
theorem lw_p76 : lw_okq (⟨"HomesickStampsModel", "isStamp", "(I)Z"⟩, 53) := ⟨⟨by decide +kernel, by decide +kernel⟩, List.mem_of_getElem? (i := 1241) (by decide +kernel), List.mem_of_getElem? (i := 1577) (by decide +kernel), List.mem_of_getElem? (i := 1578) (by decide +kernel)⟩
theorem lw_p77 : lw_okq (⟨"HomesickStampsModel", "asksStamp", "(III)V"⟩, 53) := ⟨⟨by decide +kernel, by decide +kernel⟩, List.mem_of_getElem? (i := 1241) (by decide +kernel), List.mem_of_getElem? (i := 1581) (by decide +kernel), List.mem_of_getElem? (i := 1582) (by decide +kernel)⟩
theorem lw_p78 : lw_okq (⟨"HomesickStampsModel", "feels", "(III)V"⟩, 53) := ⟨⟨by decide +kernel, by decide +kernel⟩, List.mem_of_getElem? (i := 1241) (by decide +kernel), List.mem_of_getElem? (i := 1585) (by decide +kernel), List.mem_of_getElem? (i := 1586) (by decide +kernel)⟩
theorem lw_p79 : lw_okq (⟨"HomesickStampsModel", "stampsOn", "(I)I"⟩, 53) := ⟨⟨by decide +kernel, by decide +kernel⟩, List.mem_of_getElem? (i := 1241) (by decide +kernel), List.mem_of_getElem? (i := 1592) (by decide +kernel), List.mem_of_getElem? (i := 1593) (by decide +kernel)⟩
def lw_privs_5 : List (MethodName × Nat) := [(⟨"HomesickStampsModel", "readsTimes", "()V"⟩, 53), (⟨"HomesickStampsModel", "repeats", "(III)Z"⟩, 53), (⟨"HomesickStampsModel", "readsLine", "()Z"⟩, 53), (⟨"HomesickStampsModel", "readsWall", "()Z"⟩, 53), (⟨"HomesickStampsModel", "readsSpot", "()Z"⟩, 53), (⟨"HomesickStampsModel", "readsWithin", "(II)Z"⟩, 53), (⟨"HomesickStampsModel", "readsLetter", "(I)Z"⟩, 53), (⟨"HomesickStampsModel", "isTold", "(I)Z"⟩, 53), (⟨"HomesickStampsModel", "daysGo", "(I)V"⟩, 53), (⟨"HomesickStampsModel", "dayGoes", "()V"⟩, 53), (⟨"HomesickStampsModel", "letterGoes", "(I)V"⟩, 53), (⟨"HomesickStampsModel", "sticks", "(II)Z"⟩, 53), (⟨"HomesickStampsModel", "isStamp", "(I)Z"⟩, 53), (⟨"HomesickStampsModel", "asksStamp", "(III)V"⟩, 53), (⟨"HomesickStampsModel", "feels", "(III)V"⟩, 53), (⟨"HomesickStampsModel", "stampsOn", "(I)I"⟩, 53)]
theorem lw_r5 : ∀ q ∈ lw_privs_5, lw_okq q := List.forall_mem_cons.mpr ⟨lw_p64, List.forall_mem_cons.mpr ⟨lw_p65, List.forall_mem_cons.mpr ⟨lw_p66, List.forall_mem_cons.mpr ⟨lw_p67, List.forall_mem_cons.mpr ⟨lw_p68, List.forall_mem_cons.mpr ⟨lw_p69, List.forall_mem_cons.mpr ⟨lw_p70, List.forall_mem_cons.mpr ⟨lw_p71, List.forall_mem_cons.mpr ⟨lw_p72, List.forall_mem_cons.mpr ⟨lw_p73, List.forall_mem_cons.mpr ⟨lw_p74, List.forall_mem_cons.mpr ⟨lw_p75, List.forall_mem_cons.mpr ⟨lw_p76, List.forall_mem_cons.mpr ⟨lw_p77, List.forall_mem_cons.mpr ⟨lw_p78, List.forall_mem_cons.mpr ⟨lw_p79, fun _ h => absurd h List.not_mem_nil⟩⟩⟩⟩⟩⟩⟩⟩⟩⟩⟩⟩⟩⟩⟩⟩
theorem lw_p80 : lw_okq (⟨"HomesickStampsModel", "holdsAny", "(I)Z"⟩, 53) := ⟨⟨by decide +kernel, by decide +kernel⟩, List.mem_of_getElem? (i := 1241) (by decide +kernel), List.mem_of_getElem? (i := 1596) (by decide +kernel), List.mem_of_getElem? (i := 1597) (by decide +kernel)⟩
theorem lw_p81 : lw_okq (⟨"HomesickStampsModel", "reckonsTo", "(II)I"⟩, 53) := ⟨⟨by decide +kernel, by decide +kernel⟩, List.mem_of_getElem? (i := 1241) (by decide +kernel), List.mem_of_getElem? (i := 1600) (by decide +kernel), List.mem_of_getElem? (i := 1601) (by decide +kernel)⟩
theorem lw_p82 : lw_okq (⟨"HomesickStampsModel", "byLaw", "(II)I"⟩, 53) := ⟨⟨by decide +kernel, by decide +kernel⟩, List.mem_of_getElem? (i := 1241) (by decide +kernel), List.mem_of_getElem? (i := 1607) (by decide +kernel), List.mem_of_getElem? (i := 1608) (by decide +kernel)⟩
theorem lw_p83 : lw_okq (⟨"HomesickStampsModel", "canTry", "(I)Z"⟩, 53) := ⟨⟨by decide +kernel, by decide +kernel⟩, List.mem_of_getElem? (i := 1241) (by decide +kernel), List.mem_of_getElem? (i := 1633) (by decide +kernel), List.mem_of_getElem? (i := 1634) (by decide +kernel)⟩
theorem lw_p84 : lw_okq (⟨"HomesickStampsModel", "walledSet", "()I"⟩, 53) := ⟨⟨by decide +kernel, by decide +kernel⟩, List.mem_of_getElem? (i := 1241) (by decide +kernel), List.mem_of_getElem? (i := 1637) (by decide +kernel), List.mem_of_getElem? (i := 1638) (by decide +kernel)⟩
theorem lw_p85 : lw_okq (⟨"HomesickStampsModel", "lowestOn", "(I)I"⟩, 53) := ⟨⟨by decide +kernel, by decide +kernel⟩, List.mem_of_getElem? (i := 1241) (by decide +kernel), List.mem_of_getElem? (i := 1645) (by decide +kernel), List.mem_of_getElem? (i := 1646) (by decide +kernel)⟩
theorem lw_p86 : lw_okq (⟨"HomesickStampsModel", "plainPull", "(IZ)I"⟩, 53) := ⟨⟨by decide +kernel, by decide +kernel⟩, List.mem_of_getElem? (i := 1241) (by decide +kernel), List.mem_of_getElem? (i := 1649) (by decide +kernel), List.mem_of_getElem? (i := 1650) (by decide +kernel)⟩
theorem lw_p87 : lw_okq (⟨"HomesickStampsModel", "letterOf", "(I)I"⟩, 53) := ⟨⟨by decide +kernel, by decide +kernel⟩, List.mem_of_getElem? (i := 1241) (by decide +kernel), List.mem_of_getElem? (i := 1657) (by decide +kernel), List.mem_of_getElem? (i := 1658) (by decide +kernel)⟩
theorem lw_p88 : lw_okq (⟨"HomesickStampsModel", "takesStamps", "(I)Z"⟩, 53) := ⟨⟨by decide +kernel, by decide +kernel⟩, List.mem_of_getElem? (i := 1241) (by decide +kernel), List.mem_of_getElem? (i := 1692) (by decide +kernel), List.mem_of_getElem? (i := 1693) (by decide +kernel)⟩
theorem lw_p89 : lw_okq (⟨"HomesickStampsModel", "octet", "(I)I"⟩, 53) := ⟨⟨by decide +kernel, by decide +kernel⟩, List.mem_of_getElem? (i := 1241) (by decide +kernel), List.mem_of_getElem? (i := 1696) (by decide +kernel), List.mem_of_getElem? (i := 1697) (by decide +kernel)⟩
theorem lw_p90 : lw_okq (⟨"HomesickStampsModel", "brings", "(IIIII)Z"⟩, 53) := ⟨⟨by decide +kernel, by decide +kernel⟩, List.mem_of_getElem? (i := 1241) (by decide +kernel), List.mem_of_getElem? (i := 1706) (by decide +kernel), List.mem_of_getElem? (i := 1707) (by decide +kernel)⟩
theorem lw_p91 : lw_okq (⟨"HomesickStampsModel", "stepBy", "(III)I"⟩, 53) := ⟨⟨by decide +kernel, by decide +kernel⟩, List.mem_of_getElem? (i := 1241) (by decide +kernel), List.mem_of_getElem? (i := 1710) (by decide +kernel), List.mem_of_getElem? (i := 1711) (by decide +kernel)⟩
theorem lw_p92 : lw_okq (⟨"HomesickStampsModel", "pullOf", "(IIIZ)I"⟩, 53) := ⟨⟨by decide +kernel, by decide +kernel⟩, List.mem_of_getElem? (i := 1241) (by decide +kernel), List.mem_of_getElem? (i := 1714) (by decide +kernel), List.mem_of_getElem? (i := 1715) (by decide +kernel)⟩
theorem lw_p93 : lw_okq (⟨"HomesickStampsModel", "liesSo", "(II)Z"⟩, 53) := ⟨⟨by decide +kernel, by decide +kernel⟩, List.mem_of_getElem? (i := 1241) (by decide +kernel), List.mem_of_getElem? (i := 1733) (by decide +kernel), List.mem_of_getElem? (i := 1734) (by decide +kernel)⟩
theorem lw_p94 : lw_okq (⟨"HomesickStampsModel", "sumOf", "(II)I"⟩, 53) := ⟨⟨by decide +kernel, by decide +kernel⟩, List.mem_of_getElem? (i := 1241) (by decide +kernel), List.mem_of_getElem? (i := 1741) (by decide +kernel), List.mem_of_getElem? (i := 1742) (by decide +kernel)⟩
theorem lw_p95 : lw_okq (⟨"HomesickStampsModel", "laysFewest", "(I)Z"⟩, 53) := ⟨⟨by decide +kernel, by decide +kernel⟩, List.mem_of_getElem? (i := 1241) (by decide +kernel), List.mem_of_getElem? (i := 1754) (by decide +kernel), List.mem_of_getElem? (i := 1755) (by decide +kernel)⟩
def lw_privs_6 : List (MethodName × Nat) := [(⟨"HomesickStampsModel", "holdsAny", "(I)Z"⟩, 53), (⟨"HomesickStampsModel", "reckonsTo", "(II)I"⟩, 53), (⟨"HomesickStampsModel", "byLaw", "(II)I"⟩, 53), (⟨"HomesickStampsModel", "canTry", "(I)Z"⟩, 53), (⟨"HomesickStampsModel", "walledSet", "()I"⟩, 53), (⟨"HomesickStampsModel", "lowestOn", "(I)I"⟩, 53), (⟨"HomesickStampsModel", "plainPull", "(IZ)I"⟩, 53), (⟨"HomesickStampsModel", "letterOf", "(I)I"⟩, 53), (⟨"HomesickStampsModel", "takesStamps", "(I)Z"⟩, 53), (⟨"HomesickStampsModel", "octet", "(I)I"⟩, 53), (⟨"HomesickStampsModel", "brings", "(IIIII)Z"⟩, 53), (⟨"HomesickStampsModel", "stepBy", "(III)I"⟩, 53), (⟨"HomesickStampsModel", "pullOf", "(IIIZ)I"⟩, 53), (⟨"HomesickStampsModel", "liesSo", "(II)Z"⟩, 53), (⟨"HomesickStampsModel", "sumOf", "(II)I"⟩, 53), (⟨"HomesickStampsModel", "laysFewest", "(I)Z"⟩, 53)]
theorem lw_r6 : ∀ q ∈ lw_privs_6, lw_okq q := List.forall_mem_cons.mpr ⟨lw_p80, List.forall_mem_cons.mpr ⟨lw_p81, List.forall_mem_cons.mpr ⟨lw_p82, List.forall_mem_cons.mpr ⟨lw_p83, List.forall_mem_cons.mpr ⟨lw_p84, List.forall_mem_cons.mpr ⟨lw_p85, List.forall_mem_cons.mpr ⟨lw_p86, List.forall_mem_cons.mpr ⟨lw_p87, List.forall_mem_cons.mpr ⟨lw_p88, List.forall_mem_cons.mpr ⟨lw_p89, List.forall_mem_cons.mpr ⟨lw_p90, List.forall_mem_cons.mpr ⟨lw_p91, List.forall_mem_cons.mpr ⟨lw_p92, List.forall_mem_cons.mpr ⟨lw_p93, List.forall_mem_cons.mpr ⟨lw_p94, List.forall_mem_cons.mpr ⟨lw_p95, fun _ h => absurd h List.not_mem_nil⟩⟩⟩⟩⟩⟩⟩⟩⟩⟩⟩⟩⟩⟩⟩⟩
theorem lw_p96 : lw_okq (⟨"HomesickStampsModel", "areRows", "(I)Z"⟩, 53) := ⟨⟨by decide +kernel, by decide +kernel⟩, List.mem_of_getElem? (i := 1241) (by decide +kernel), List.mem_of_getElem? (i := 1766) (by decide +kernel), List.mem_of_getElem? (i := 1767) (by decide +kernel)⟩
theorem lw_p97 : lw_okq (⟨"HomesickStampsModel", "changesRing", "(II)I"⟩, 53) := ⟨⟨by decide +kernel, by decide +kernel⟩, List.mem_of_getElem? (i := 1241) (by decide +kernel), List.mem_of_getElem? (i := 1770) (by decide +kernel), List.mem_of_getElem? (i := 1771) (by decide +kernel)⟩
theorem lw_p98 : lw_okq (⟨"HomesickStampsModel", "likesOf", "(III)I"⟩, 53) := ⟨⟨by decide +kernel, by decide +kernel⟩, List.mem_of_getElem? (i := 1241) (by decide +kernel), List.mem_of_getElem? (i := 1774) (by decide +kernel), List.mem_of_getElem? (i := 1775) (by decide +kernel)⟩
theorem lw_p99 : lw_okq (⟨"HomesickStampsModel", "toldMints", "()I"⟩, 53) := ⟨⟨by decide +kernel, by decide +kernel⟩, List.mem_of_getElem? (i := 1241) (by decide +kernel), List.mem_of_getElem? (i := 1799) (by decide +kernel), List.mem_of_getElem? (i := 1800) (by decide +kernel)⟩
theorem lw_p100 : lw_okq (⟨"HomesickStampsModel", "toldLetters", "()I"⟩, 53) := ⟨⟨by decide +kernel, by decide +kernel⟩, List.mem_of_getElem? (i := 1241) (by decide +kernel), List.mem_of_getElem? (i := 1803) (by decide +kernel), List.mem_of_getElem? (i := 1804) (by decide +kernel)⟩
def lw_privs_7 : List (MethodName × Nat) := [(⟨"HomesickStampsModel", "areRows", "(I)Z"⟩, 53), (⟨"HomesickStampsModel", "changesRing", "(II)I"⟩, 53), (⟨"HomesickStampsModel", "likesOf", "(III)I"⟩, 53), (⟨"HomesickStampsModel", "toldMints", "()I"⟩, 53), (⟨"HomesickStampsModel", "toldLetters", "()I"⟩, 53)]
theorem lw_r7 : ∀ q ∈ lw_privs_7, lw_okq q := List.forall_mem_cons.mpr ⟨lw_p96, List.forall_mem_cons.mpr ⟨lw_p97, List.forall_mem_cons.mpr ⟨lw_p98, List.forall_mem_cons.mpr ⟨lw_p99, List.forall_mem_cons.mpr ⟨lw_p100, fun _ h => absurd h List.not_mem_nil⟩⟩⟩⟩⟩
def lw_privs : List (MethodName × Nat) := lw_privs_1 ++ (lw_privs_2 ++ (lw_privs_3 ++ (lw_privs_4 ++ (lw_privs_5 ++ (lw_privs_6 ++ (lw_privs_7))))))
def lw_tbl : List Cond := k2_sels lw_privs ++ tables_1
theorem lw_privs_ok : ∀ q ∈ lw_privs, lw_okq q := by
  show ∀ q ∈ lw_privs_1 ++ (lw_privs_2 ++ (lw_privs_3 ++ (lw_privs_4 ++ (lw_privs_5 ++ (lw_privs_6 ++ (lw_privs_7)))))), lw_okq q
  exact List.forall_mem_append.mpr ⟨lw_r1, List.forall_mem_append.mpr ⟨lw_r2, List.forall_mem_append.mpr ⟨lw_r3, List.forall_mem_append.mpr ⟨lw_r4, List.forall_mem_append.mpr ⟨lw_r5, List.forall_mem_append.mpr ⟨lw_r6, lw_r7⟩⟩⟩⟩⟩⟩

def RX0 : String := "HomesickStamps$Clerk"
def TX0 : u_T := fun k => match k with
  | 0 => ("HomesickStamps$Clerk", "republic", "LHomesickStamps$Republic;", true)
  | 1 => ("HomesickStamps$Clerk", "facts", "[I", true)
  | 2 => ("HomesickStamps$Clerk", "moreUsed", "[I", true)
  | 3 => ("HomesickStamps$Clerk", "acrossSum", "I", false)
  | 4 => ("HomesickStamps$Clerk", "alongSum", "I", false)
  | _ => ("HomesickStamps$Clerk", "fallen", "I", false)
def tyX0 : Nat → FieldType := fun k => match k with
  | 0 => .object "HomesickStamps$Republic"
  | 1 => .array .int
  | 2 => .array .int
  | 3 => .int
  | 4 => .int
  | _ => .int
abbrev wsX00 : List Cond := u_ws RX0 TX0 6
theorem nmX0 : ∀ a, a < 6 → ∀ b, b < 6 → a ≠ b → (TX0 a).2.1 ≠ (TX0 b).2.1 := by decide +kernel
theorem tyX0_ok : ∀ k, k < 6 → parseFieldDescriptor (TX0 k).2.2.1 = some (tyX0 k) := by decide +kernel
abbrev cX0_init : ByteArray := prog_2_method_1_code
def yX0_init : MethodName := ⟨RX0, "<init>", "(LHomesickStamps$Republic;)V"⟩
abbrev cX0_fallen : ByteArray := prog_2_method_2_code
def yX0_fallen : MethodName := ⟨RX0, "fallen", "()I"⟩
abbrev cX0_passDays : ByteArray := prog_2_method_3_code
def yX0_passDays : MethodName := ⟨RX0, "passDays", "(LHomesickStamps$Law;LHomesickStamps$Letters;I)I"⟩
abbrev cX0_passLetter : ByteArray := prog_2_method_4_code
def yX0_passLetter : MethodName := ⟨RX0, "passLetter", "(LHomesickStamps$Law;LHomesickStamps$Letters;I)I"⟩
abbrev cX0_learn : ByteArray := prog_2_method_5_code
def yX0_learn : MethodName := ⟨RX0, "learn", "(LHomesickStamps$Letters;II)V"⟩
abbrev cX0_pull : ByteArray := prog_2_method_6_code
def yX0_pull : MethodName := ⟨RX0, "pull", "(LHomesickStamps$Law;LHomesickStamps$Letters;II)V"⟩
abbrev cX0_step : ByteArray := prog_2_method_7_code
def yX0_step : MethodName := ⟨RX0, "step", "(LHomesickStamps$Letters;I)I"⟩
def RX1 : String := "HomesickStamps$Crew"
def TX1 : u_T := fun k => match k with
  | 0 => ("HomesickStamps$Crew", "republic", "LHomesickStamps$Republic;", true)
  | 1 => ("HomesickStamps$Crew", "members", "[I", true)
  | 2 => ("HomesickStamps$Crew", "size", "I", false)
  | 3 => ("HomesickStamps$Crew", "acrossSum", "I", false)
  | _ => ("HomesickStamps$Crew", "alongSum", "I", false)
def tyX1 : Nat → FieldType := fun k => match k with
  | 0 => .object "HomesickStamps$Republic"
  | 1 => .array .int
  | 2 => .int
  | 3 => .int
  | _ => .int
abbrev wsX10 : List Cond := u_ws RX1 TX1 5
theorem nmX1 : ∀ a, a < 5 → ∀ b, b < 5 → a ≠ b → (TX1 a).2.1 ≠ (TX1 b).2.1 := by decide +kernel
theorem tyX1_ok : ∀ k, k < 5 → parseFieldDescriptor (TX1 k).2.2.1 = some (tyX1 k) := by decide +kernel
abbrev cX1_init : ByteArray := prog_3_method_1_code
def yX1_init : MethodName := ⟨RX1, "<init>", "(LHomesickStamps$Republic;)V"⟩
abbrev cX1_gather : ByteArray := prog_3_method_2_code
def yX1_gather : MethodName := ⟨RX1, "gather", "(LHomesickStamps$Tape;I)Z"⟩
abbrev cX1_pullTogether : ByteArray := prog_3_method_3_code
def yX1_pullTogether : MethodName := ⟨RX1, "pullTogether", "(II)V"⟩
abbrev cX1_wayFrom : ByteArray := prog_3_method_4_code
def yX1_wayFrom : MethodName := ⟨RX1, "wayFrom", "(II)I"⟩
abbrev cX1_placeBehind : ByteArray := prog_3_method_5_code
def yX1_placeBehind : MethodName := ⟨RX1, "placeBehind", "(III)I"⟩
abbrev cX1_fewer : ByteArray := prog_3_method_6_code
def yX1_fewer : MethodName := ⟨RX1, "fewer", "(II)I"⟩
abbrev cX1_fewestToBring : ByteArray := prog_3_method_7_code
def yX1_fewestToBring : MethodName := ⟨RX1, "fewestToBring", "(III)I"⟩
abbrev cX1_hangs : ByteArray := prog_3_method_8_code
def yX1_hangs : MethodName := ⟨RX1, "hangs", "(II)Z"⟩
abbrev cX1_waysToHang : ByteArray := prog_3_method_9_code
def yX1_waysToHang : MethodName := ⟨RX1, "waysToHang", "(I)I"⟩
abbrev cX1_fewestToHang : ByteArray := prog_3_method_10_code
def yX1_fewestToHang : MethodName := ⟨RX1, "fewestToHang", "(I)I"⟩
abbrev cX1_fewestFalse : ByteArray := prog_3_method_11_code
def yX1_fewestFalse : MethodName := ⟨RX1, "fewestFalse", "(II)I"⟩
def RX2 : String := "HomesickStamps$Law"
def TX2 : u_T := fun k => match k with
  | 0 => ("HomesickStamps$Law", "kind", "[I", true)
  | 1 => ("HomesickStamps$Law", "worthAt", "[I", true)
  | 2 => ("HomesickStamps$Law", "testAt", "[I", true)
  | 3 => ("HomesickStamps$Law", "step", "[I", true)
  | 4 => ("HomesickStamps$Law", "beside", "[I", true)
  | 5 => ("HomesickStamps$Law", "stack", "[I", true)
  | 6 => ("HomesickStamps$Law", "rules", "I", false)
  | 7 => ("HomesickStamps$Law", "steps", "I", false)
  | 8 => ("HomesickStamps$Law", "waiting", "I", false)
  | _ => ("HomesickStamps$Law", "refused", "Z", false)
def tyX2 : Nat → FieldType := fun k => match k with
  | 0 => .array .int
  | 1 => .array .int
  | 2 => .array .int
  | 3 => .array .int
  | 4 => .array .int
  | 5 => .array .int
  | 6 => .int
  | 7 => .int
  | 8 => .int
  | _ => .boolean
abbrev wsX20 : List Cond := u_ws RX2 TX2 10
theorem nmX2 : ∀ a, a < 10 → ∀ b, b < 10 → a ≠ b → (TX2 a).2.1 ≠ (TX2 b).2.1 := by decide +kernel
theorem tyX2_ok : ∀ k, k < 10 → parseFieldDescriptor (TX2 k).2.2.1 = some (tyX2 k) := by decide +kernel
abbrev cX2_init : ByteArray := prog_4_method_1_code
def yX2_init : MethodName := ⟨RX2, "<init>", "()V"⟩
abbrev cX2_size : ByteArray := prog_4_method_2_code
def yX2_size : MethodName := ⟨RX2, "size", "()I"⟩
abbrev cX2_clear : ByteArray := prog_4_method_3_code
def yX2_clear : MethodName := ⟨RX2, "clear", "()V"⟩
abbrev cX2_beginRule : ByteArray := prog_4_method_4_code
def yX2_beginRule : MethodName := ⟨RX2, "beginRule", "(I)V"⟩
abbrev cX2_beginTest : ByteArray := prog_4_method_5_code
def yX2_beginTest : MethodName := ⟨RX2, "beginTest", "()V"⟩
abbrev cX2_write : ByteArray := prog_4_method_6_code
def yX2_write : MethodName := ⟨RX2, "write", "(II)I"⟩
abbrev cX2_landHere : ByteArray := prog_4_method_7_code
def yX2_landHere : MethodName := ⟨RX2, "landHere", "(I)V"⟩
abbrev cX2_letsFall : ByteArray := prog_4_method_8_code
def yX2_letsFall : MethodName := ⟨RX2, "letsFall", "([I)Z"⟩
abbrev cX2_worth : ByteArray := prog_4_method_9_code
def yX2_worth : MethodName := ⟨RX2, "worth", "(I[I)I"⟩
abbrev cX2_reckon : ByteArray := prog_4_method_10_code
def yX2_reckon : MethodName := ⟨RX2, "reckon", "(I[I)I"⟩
abbrev cX2_doStep : ByteArray := prog_4_method_11_code
def yX2_doStep : MethodName := ⟨RX2, "doStep", "(I[I)I"⟩
abbrev cX2_joined : ByteArray := prog_4_method_12_code
def yX2_joined : MethodName := ⟨RX2, "joined", "(III)I"⟩
abbrev cX2_push : ByteArray := prog_4_method_13_code
def yX2_push : MethodName := ⟨RX2, "push", "(I)V"⟩
abbrev cX2_pop : ByteArray := prog_4_method_14_code
def yX2_pop : MethodName := ⟨RX2, "pop", "()I"⟩
def RX3 : String := "HomesickStamps$LawReader"
def TX3 : u_T := fun k => match k with
  | 0 => ("HomesickStamps$Reader", "text", "[I", true)
  | 1 => ("HomesickStamps$Reader", "end", "I", false)
  | 2 => ("HomesickStamps$Reader", "at", "I", false)
  | 3 => ("HomesickStamps$Reader", "ahead", "I", false)
  | 4 => ("HomesickStamps$Reader", "fault", "I", false)
  | _ => ("HomesickStamps$LawReader", "into", "LHomesickStamps$Law;", false)
def tyX3 : Nat → FieldType := fun k => match k with
  | 0 => .array .int
  | 1 => .int
  | 2 => .int
  | 3 => .int
  | 4 => .int
  | _ => .object "HomesickStamps$Law"
abbrev wsX30 : List Cond := u_ws RX3 TX3 6
theorem nmX3 : ∀ a, a < 6 → ∀ b, b < 6 → a ≠ b → (TX3 a).2.1 ≠ (TX3 b).2.1 := by decide +kernel
theorem tyX3_ok : ∀ k, k < 6 → parseFieldDescriptor (TX3 k).2.2.1 = some (tyX3 k) := by decide +kernel
abbrev cX3_init : ByteArray := prog_5_method_1_code
def yX3_init : MethodName := ⟨RX3, "<init>", "(LHomesickStamps$Tape;LHomesickStamps$Law;)V"⟩
abbrev cX3_read : ByteArray := prog_5_method_2_code
def yX3_read : MethodName := ⟨RX3, "read", "(ILHomesickStamps$Law;)I"⟩
abbrev cX3_readRule : ByteArray := prog_5_method_3_code
def yX3_readRule : MethodName := ⟨RX3, "readRule", "()Z"⟩
abbrev cX3_readAny : ByteArray := prog_5_method_4_code
def yX3_readAny : MethodName := ⟨RX3, "readAny", "(I)Z"⟩
abbrev cX3_readAll : ByteArray := prog_5_method_5_code
def yX3_readAll : MethodName := ⟨RX3, "readAll", "(I)Z"⟩
abbrev cX3_readTest : ByteArray := prog_5_method_6_code
def yX3_readTest : MethodName := ⟨RX3, "readTest", "(I)Z"⟩
abbrev cX3_readComparison : ByteArray := prog_5_method_7_code
def yX3_readComparison : MethodName := ⟨RX3, "readComparison", "(I)Z"⟩
abbrev cX3_readSum : ByteArray := prog_5_method_8_code
def yX3_readSum : MethodName := ⟨RX3, "readSum", "(I)Z"⟩
abbrev cX3_readTerm : ByteArray := prog_5_method_9_code
def yX3_readTerm : MethodName := ⟨RX3, "readTerm", "(I)Z"⟩
abbrev cX3_readFactor : ByteArray := prog_5_method_10_code
def yX3_readFactor : MethodName := ⟨RX3, "readFactor", "(I)Z"⟩
def RX4 : String := "HomesickStamps$Letters"
def TX4 : u_T := fun k => match k with
  | 0 => ("HomesickStamps$Letters", "place", "[I", true)
  | 1 => ("HomesickStamps$Letters", "paste", "[I", true)
  | 2 => ("HomesickStamps$Letters", "letter", "[I", true)
  | 3 => ("HomesickStamps$Letters", "used", "[I", true)
  | 4 => ("HomesickStamps$Letters", "told", "I", false)
  | 5 => ("HomesickStamps$Letters", "walled", "I", false)
  | 6 => ("HomesickStamps$Letters", "day", "I", false)
  | _ => ("HomesickStamps$Letters", "drawState", "I", false)
def tyX4 : Nat → FieldType := fun k => match k with
  | 0 => .array .int
  | 1 => .array .int
  | 2 => .array .int
  | 3 => .array .int
  | 4 => .int
  | 5 => .int
  | 6 => .int
  | _ => .int
abbrev wsX40 : List Cond := u_ws RX4 TX4 8
theorem nmX4 : ∀ a, a < 8 → ∀ b, b < 8 → a ≠ b → (TX4 a).2.1 ≠ (TX4 b).2.1 := by decide +kernel
theorem tyX4_ok : ∀ k, k < 8 → parseFieldDescriptor (TX4 k).2.2.1 = some (tyX4 k) := by decide +kernel
abbrev cX4_init : ByteArray := prog_6_method_1_code
def yX4_init : MethodName := ⟨RX4, "<init>", "()V"⟩
abbrev cX4_copyFrom : ByteArray := prog_6_method_2_code
def yX4_copyFrom : MethodName := ⟨RX4, "copyFrom", "(LHomesickStamps$Letters;)V"⟩
abbrev cX4_isTold : ByteArray := prog_6_method_3_code
def yX4_isTold : MethodName := ⟨RX4, "isTold", "(I)Z"⟩
abbrev cX4_toldBits : ByteArray := prog_6_method_4_code
def yX4_toldBits : MethodName := ⟨RX4, "toldBits", "()I"⟩
abbrev cX4_isWalled : ByteArray := prog_6_method_5_code
def yX4_isWalled : MethodName := ⟨RX4, "isWalled", "(I)Z"⟩
abbrev cX4_walledBits : ByteArray := prog_6_method_6_code
def yX4_walledBits : MethodName := ⟨RX4, "walledBits", "()I"⟩
abbrev cX4_placeOf : ByteArray := prog_6_method_7_code
def yX4_placeOf : MethodName := ⟨RX4, "placeOf", "(I)I"⟩
abbrev cX4_pasteOf : ByteArray := prog_6_method_8_code
def yX4_pasteOf : MethodName := ⟨RX4, "pasteOf", "(I)I"⟩
abbrev cX4_lay : ByteArray := prog_6_method_9_code
def yX4_lay : MethodName := ⟨RX4, "lay", "(II)V"⟩
abbrev cX4_go : ByteArray := prog_6_method_10_code
def yX4_go : MethodName := ⟨RX4, "go", "(II)V"⟩
abbrev cX4_wallIn : ByteArray := prog_6_method_11_code
def yX4_wallIn : MethodName := ⟨RX4, "wallIn", "(I)V"⟩
abbrev cX4_putPaste : ByteArray := prog_6_method_12_code
def yX4_putPaste : MethodName := ⟨RX4, "putPaste", "(II)V"⟩
abbrev cX4_letterOf : ByteArray := prog_6_method_13_code
def yX4_letterOf : MethodName := ⟨RX4, "letterOf", "(I)I"⟩
abbrev cX4_isOn : ByteArray := prog_6_method_14_code
def yX4_isOn : MethodName := ⟨RX4, "isOn", "(II)Z"⟩
abbrev cX4_stick : ByteArray := prog_6_method_15_code
def yX4_stick : MethodName := ⟨RX4, "stick", "(II)V"⟩
abbrev cX4_peel : ByteArray := prog_6_method_16_code
def yX4_peel : MethodName := ⟨RX4, "peel", "(I)V"⟩
abbrev cX4_peelFrom : ByteArray := prog_6_method_17_code
def yX4_peelFrom : MethodName := ⟨RX4, "peelFrom", "(I)V"⟩
abbrev cX4_stampsOn : ByteArray := prog_6_method_18_code
def yX4_stampsOn : MethodName := ⟨RX4, "stampsOn", "(I)I"⟩
abbrev cX4_stampsOnAll : ByteArray := prog_6_method_19_code
def yX4_stampsOnAll : MethodName := ⟨RX4, "stampsOnAll", "()I"⟩
abbrev cX4_lowestOn : ByteArray := prog_6_method_20_code
def yX4_lowestOn : MethodName := ⟨RX4, "lowestOn", "(I)I"⟩
abbrev cX4_usedOf : ByteArray := prog_6_method_21_code
def yX4_usedOf : MethodName := ⟨RX4, "usedOf", "(I)I"⟩
abbrev cX4_useMore : ByteArray := prog_6_method_22_code
def yX4_useMore : MethodName := ⟨RX4, "useMore", "(II)V"⟩
abbrev cX4_day : ByteArray := prog_6_method_23_code
def yX4_day : MethodName := ⟨RX4, "day", "()I"⟩
abbrev cX4_endDay : ByteArray := prog_6_method_24_code
def yX4_endDay : MethodName := ⟨RX4, "endDay", "()V"⟩
abbrev cX4_drawState : ByteArray := prog_6_method_25_code
def yX4_drawState : MethodName := ⟨RX4, "drawState", "()I"⟩
abbrev cX4_seedWith : ByteArray := prog_6_method_26_code
def yX4_seedWith : MethodName := ⟨RX4, "seedWith", "(I)V"⟩
abbrev cX4_draw : ByteArray := prog_6_method_27_code
def yX4_draw : MethodName := ⟨RX4, "draw", "()I"⟩
def RX5 : String := "HomesickStamps$PostReader"
def TX5 : u_T := fun k => match k with
  | 0 => ("HomesickStamps$Reader", "text", "[I", true)
  | 1 => ("HomesickStamps$Reader", "end", "I", false)
  | 2 => ("HomesickStamps$Reader", "at", "I", false)
  | 3 => ("HomesickStamps$Reader", "ahead", "I", false)
  | 4 => ("HomesickStamps$Reader", "fault", "I", false)
  | 5 => ("HomesickStamps$PostReader", "sign", "[I", true)
  | 6 => ("HomesickStamps$PostReader", "letter", "[I", true)
  | 7 => ("HomesickStamps$PostReader", "number", "[I", true)
  | 8 => ("HomesickStamps$PostReader", "lines", "I", false)
  | 9 => ("HomesickStamps$PostReader", "told", "I", false)
  | _ => ("HomesickStamps$PostReader", "stamps", "I", false)
def tyX5 : Nat → FieldType := fun k => match k with
  | 0 => .array .int
  | 1 => .int
  | 2 => .int
  | 3 => .int
  | 4 => .int
  | 5 => .array .int
  | 6 => .array .int
  | 7 => .array .int
  | 8 => .int
  | 9 => .int
  | _ => .int
abbrev wsX50 : List Cond := u_ws RX5 TX5 11
theorem nmX5 : ∀ a, a < 11 → ∀ b, b < 11 → a ≠ b → (TX5 a).2.1 ≠ (TX5 b).2.1 := by decide +kernel
theorem tyX5_ok : ∀ k, k < 11 → parseFieldDescriptor (TX5 k).2.2.1 = some (tyX5 k) := by decide +kernel
abbrev cX5_init : ByteArray := prog_7_method_1_code
def yX5_init : MethodName := ⟨RX5, "<init>", "(LHomesickStamps$Tape;)V"⟩
abbrev cX5_read : ByteArray := prog_7_method_2_code
def yX5_read : MethodName := ⟨RX5, "read", "(III)I"⟩
abbrev cX5_readLine : ByteArray := prog_7_method_3_code
def yX5_readLine : MethodName := ⟨RX5, "readLine", "()Z"⟩
abbrev cX5_readOrder : ByteArray := prog_7_method_4_code
def yX5_readOrder : MethodName := ⟨RX5, "readOrder", "(II)Z"⟩
abbrev cX5_readPlace : ByteArray := prog_7_method_5_code
def yX5_readPlace : MethodName := ⟨RX5, "readPlace", "()I"⟩
abbrev cX5_add : ByteArray := prog_7_method_6_code
def yX5_add : MethodName := ⟨RX5, "add", "(III)Z"⟩
abbrev cX5_carryOut : ByteArray := prog_7_method_7_code
def yX5_carryOut : MethodName := ⟨RX5, "carryOut", "(LHomesickStamps$Letters;LHomesickStamps$Republic;)V"⟩
abbrev cX5_carryOutOrder : ByteArray := prog_7_method_8_code
def yX5_carryOutOrder : MethodName := ⟨RX5, "carryOutOrder", "(LHomesickStamps$Letters;III)V"⟩
def RX6 : String := "HomesickStamps$Reader"
def TX6 : u_T := fun k => match k with
  | _ => ("", "", "", false)
def tyX6 : Nat → FieldType := fun k => match k with
  | _ => .int
abbrev wsX60 : List Cond := u_ws RX6 TX6 0
theorem nmX6 : ∀ a, a < 0 → ∀ b, b < 0 → a ≠ b → (TX6 a).2.1 ≠ (TX6 b).2.1 := by decide +kernel
theorem tyX6_ok : ∀ k, k < 0 → parseFieldDescriptor (TX6 k).2.2.1 = some (tyX6 k) := by decide +kernel
abbrev cX6_init : ByteArray := prog_8_method_1_code
def yX6_init : MethodName := ⟨RX6, "<init>", "(LHomesickStamps$Tape;)V"⟩
abbrev cX6_begin : ByteArray := prog_8_method_2_code
def yX6_begin : MethodName := ⟨RX6, "begin", "(I)V"⟩
abbrev cX6_skip : ByteArray := prog_8_method_3_code
def yX6_skip : MethodName := ⟨RX6, "skip", "()V"⟩
abbrev cX6_at : ByteArray := prog_8_method_4_code
def yX6_at : MethodName := ⟨RX6, "at", "()I"⟩
abbrev cX6_ahead : ByteArray := prog_8_method_5_code
def yX6_ahead : MethodName := ⟨RX6, "ahead", "()I"⟩
abbrev cX6_ended : ByteArray := prog_8_method_6_code
def yX6_ended : MethodName := ⟨RX6, "ended", "()Z"⟩
abbrev cX6_fault : ByteArray := prog_8_method_7_code
def yX6_fault : MethodName := ⟨RX6, "fault", "()I"⟩
abbrev cX6_fails : ByteArray := prog_8_method_8_code
def yX6_fails : MethodName := ⟨RX6, "fails", "(II)Z"⟩
abbrev cX6_reads : ByteArray := prog_8_method_9_code
def yX6_reads : MethodName := ⟨RX6, "reads", "(I)Z"⟩
abbrev cX6_readNumber : ByteArray := prog_8_method_10_code
def yX6_readNumber : MethodName := ⟨RX6, "readNumber", "(III)I"⟩
def RX7 : String := "HomesickStamps$Republic"
def TX7 : u_T := fun k => match k with
  | 0 => ("HomesickStamps$Republic", "mintX", "[I", true)
  | 1 => ("HomesickStamps$Republic", "mintY", "[I", true)
  | 2 => ("HomesickStamps$Republic", "wall", "[Z", true)
  | 3 => ("HomesickStamps$Republic", "mintOf", "[I", true)
  | 4 => ("HomesickStamps$Republic", "grainsOf", "[I", true)
  | 5 => ("HomesickStamps$Republic", "toldMints", "I", false)
  | 6 => ("HomesickStamps$Republic", "walls", "I", false)
  | _ => ("HomesickStamps$Republic", "stamps", "I", false)
def tyX7 : Nat → FieldType := fun k => match k with
  | 0 => .array .int
  | 1 => .array .int
  | 2 => .array .boolean
  | 3 => .array .int
  | 4 => .array .int
  | 5 => .int
  | 6 => .int
  | _ => .int
abbrev wsX70 : List Cond := u_ws RX7 TX7 8
theorem nmX7 : ∀ a, a < 8 → ∀ b, b < 8 → a ≠ b → (TX7 a).2.1 ≠ (TX7 b).2.1 := by decide +kernel
theorem tyX7_ok : ∀ k, k < 8 → parseFieldDescriptor (TX7 k).2.2.1 = some (tyX7 k) := by decide +kernel
abbrev cX7_init : ByteArray := prog_9_method_1_code
def yX7_init : MethodName := ⟨RX7, "<init>", "()V"⟩
abbrev cX7_tellMint : ByteArray := prog_9_method_2_code
def yX7_tellMint : MethodName := ⟨RX7, "tellMint", "(III)V"⟩
abbrev cX7_isToldMint : ByteArray := prog_9_method_3_code
def yX7_isToldMint : MethodName := ⟨RX7, "isToldMint", "(I)Z"⟩
abbrev cX7_toldMints : ByteArray := prog_9_method_4_code
def yX7_toldMints : MethodName := ⟨RX7, "toldMints", "()I"⟩
abbrev cX7_walls : ByteArray := prog_9_method_5_code
def yX7_walls : MethodName := ⟨RX7, "walls", "()I"⟩
abbrev cX7_isWall : ByteArray := prog_9_method_6_code
def yX7_isWall : MethodName := ⟨RX7, "isWall", "(I)Z"⟩
abbrev cX7_turnWall : ByteArray := prog_9_method_7_code
def yX7_turnWall : MethodName := ⟨RX7, "turnWall", "(I)V"⟩
abbrev cX7_clearStamps : ByteArray := prog_9_method_8_code
def yX7_clearStamps : MethodName := ⟨RX7, "clearStamps", "()V"⟩
abbrev cX7_print : ByteArray := prog_9_method_9_code
def yX7_print : MethodName := ⟨RX7, "print", "(II)V"⟩
abbrev cX7_stamps : ByteArray := prog_9_method_10_code
def yX7_stamps : MethodName := ⟨RX7, "stamps", "()I"⟩
abbrev cX7_isStamp : ByteArray := prog_9_method_11_code
def yX7_isStamp : MethodName := ⟨RX7, "isStamp", "(I)Z"⟩
abbrev cX7_mintOf : ByteArray := prog_9_method_12_code
def yX7_mintOf : MethodName := ⟨RX7, "mintOf", "(I)I"⟩
abbrev cX7_grainsOf : ByteArray := prog_9_method_13_code
def yX7_grainsOf : MethodName := ⟨RX7, "grainsOf", "(I)I"⟩
abbrev cX7_isPulling : ByteArray := prog_9_method_14_code
def yX7_isPulling : MethodName := ⟨RX7, "isPulling", "(I)Z"⟩
abbrev cX7_across : ByteArray := prog_9_method_15_code
def yX7_across : MethodName := ⟨RX7, "across", "(II)I"⟩
abbrev cX7_along : ByteArray := prog_9_method_16_code
def yX7_along : MethodName := ⟨RX7, "along", "(II)I"⟩
abbrev cX7_stepsHome : ByteArray := prog_9_method_17_code
def yX7_stepsHome : MethodName := ⟨RX7, "stepsHome", "(II)I"⟩
abbrev cX7_wayTo : ByteArray := prog_9_method_18_code
def yX7_wayTo : MethodName := ⟨RX7, "wayTo", "(III)I"⟩
def RX8 : String := "HomesickStamps$Riddles"
def TX8 : u_T := fun k => match k with
  | 0 => ("HomesickStamps$Riddles", "tape", "LHomesickStamps$Tape;", true)
  | 1 => ("HomesickStamps$Riddles", "fewest", "[I", true)
  | 2 => ("HomesickStamps$Riddles", "got", "[I", true)
  | 3 => ("HomesickStamps$Riddles", "bits", "I", false)
  | _ => ("HomesickStamps$Riddles", "grains", "I", false)
def tyX8 : Nat → FieldType := fun k => match k with
  | 0 => .object "HomesickStamps$Tape"
  | 1 => .array .int
  | 2 => .array .int
  | 3 => .int
  | _ => .int
abbrev wsX80 : List Cond := u_ws RX8 TX8 5
theorem nmX8 : ∀ a, a < 5 → ∀ b, b < 5 → a ≠ b → (TX8 a).2.1 ≠ (TX8 b).2.1 := by decide +kernel
theorem tyX8_ok : ∀ k, k < 5 → parseFieldDescriptor (TX8 k).2.2.1 = some (tyX8 k) := by decide +kernel
abbrev cX8_init : ByteArray := prog_10_method_1_code
def yX8_init : MethodName := ⟨RX8, "<init>", "(LHomesickStamps$Tape;)V"⟩
abbrev cX8_bits : ByteArray := prog_10_method_2_code
def yX8_bits : MethodName := ⟨RX8, "bits", "()I"⟩
abbrev cX8_grains : ByteArray := prog_10_method_3_code
def yX8_grains : MethodName := ⟨RX8, "grains", "()I"⟩
abbrev cX8_weightOf : ByteArray := prog_10_method_4_code
def yX8_weightOf : MethodName := ⟨RX8, "weightOf", "(II)I"⟩
abbrev cX8_loadShip : ByteArray := prog_10_method_5_code
def yX8_loadShip : MethodName := ⟨RX8, "loadShip", "(I)V"⟩
abbrev cX8_loadMule : ByteArray := prog_10_method_6_code
def yX8_loadMule : MethodName := ⟨RX8, "loadMule", "(II)Z"⟩
abbrev cX8_isBetterLoad : ByteArray := prog_10_method_7_code
def yX8_isBetterLoad : MethodName := ⟨RX8, "isBetterLoad", "(II)Z"⟩
abbrev cX8_reckonStamps : ByteArray := prog_10_method_8_code
def yX8_reckonStamps : MethodName := ⟨RX8, "reckonStamps", "(I)Z"⟩
abbrev cX8_frankedUpTo : ByteArray := prog_10_method_9_code
def yX8_frankedUpTo : MethodName := ⟨RX8, "frankedUpTo", "(I)I"⟩
abbrev cX8_stampsFor : ByteArray := prog_10_method_10_code
def yX8_stampsFor : MethodName := ⟨RX8, "stampsFor", "(I)I"⟩
abbrev cX8_exchangeStamps : ByteArray := prog_10_method_11_code
def yX8_exchangeStamps : MethodName := ⟨RX8, "exchangeStamps", "(I)Z"⟩
abbrev cX8_rowsNameEachOnce : ByteArray := prog_10_method_12_code
def yX8_rowsNameEachOnce : MethodName := ⟨RX8, "rowsNameEachOnce", "(I)Z"⟩
abbrev cX8_changeInRing : ByteArray := prog_10_method_13_code
def yX8_changeInRing : MethodName := ⟨RX8, "changeInRing", "(II)I"⟩
abbrev cX8_likedMost : ByteArray := prog_10_method_14_code
def yX8_likedMost : MethodName := ⟨RX8, "likedMost", "(III)I"⟩
abbrev cX8_stampGotBy : ByteArray := prog_10_method_15_code
def yX8_stampGotBy : MethodName := ⟨RX8, "stampGotBy", "(I)I"⟩
def RX9 : String := "HomesickStamps$SheetReader"
def TX9 : u_T := fun k => match k with
  | 0 => ("HomesickStamps$Reader", "text", "[I", true)
  | 1 => ("HomesickStamps$Reader", "end", "I", false)
  | 2 => ("HomesickStamps$Reader", "at", "I", false)
  | 3 => ("HomesickStamps$Reader", "ahead", "I", false)
  | 4 => ("HomesickStamps$Reader", "fault", "I", false)
  | 5 => ("HomesickStamps$SheetReader", "mint", "[I", true)
  | 6 => ("HomesickStamps$SheetReader", "grains", "[I", true)
  | _ => ("HomesickStamps$SheetReader", "size", "I", false)
def tyX9 : Nat → FieldType := fun k => match k with
  | 0 => .array .int
  | 1 => .int
  | 2 => .int
  | 3 => .int
  | 4 => .int
  | 5 => .array .int
  | 6 => .array .int
  | _ => .int
abbrev wsX90 : List Cond := u_ws RX9 TX9 8
theorem nmX9 : ∀ a, a < 8 → ∀ b, b < 8 → a ≠ b → (TX9 a).2.1 ≠ (TX9 b).2.1 := by decide +kernel
theorem tyX9_ok : ∀ k, k < 8 → parseFieldDescriptor (TX9 k).2.2.1 = some (tyX9 k) := by decide +kernel
abbrev cX9_init : ByteArray := prog_11_method_1_code
def yX9_init : MethodName := ⟨RX9, "<init>", "(LHomesickStamps$Tape;)V"⟩
abbrev cX9_read : ByteArray := prog_11_method_2_code
def yX9_read : MethodName := ⟨RX9, "read", "(I)I"⟩
abbrev cX9_printInto : ByteArray := prog_11_method_3_code
def yX9_printInto : MethodName := ⟨RX9, "printInto", "(LHomesickStamps$Republic;)V"⟩
abbrev cX9_readStamps : ByteArray := prog_11_method_4_code
def yX9_readStamps : MethodName := ⟨RX9, "readStamps", "(I)Z"⟩
abbrev cX9_readOne : ByteArray := prog_11_method_5_code
def yX9_readOne : MethodName := ⟨RX9, "readOne", "(I)Z"⟩
abbrev cX9_readStamp : ByteArray := prog_11_method_6_code
def yX9_readStamp : MethodName := ⟨RX9, "readStamp", "(II)Z"⟩
abbrev cX9_readRound : ByteArray := prog_11_method_7_code
def yX9_readRound : MethodName := ⟨RX9, "readRound", "(III)Z"⟩
abbrev cX9_add : ByteArray := prog_11_method_8_code
def yX9_add : MethodName := ⟨RX9, "add", "(II)V"⟩
def RX10 : String := "HomesickStamps$Tape"
def TX10 : u_T := fun k => match k with
  | 0 => ("HomesickStamps$Tape", "bytes", "[I", true)
  | _ => ("HomesickStamps$Tape", "size", "I", false)
def tyX10 : Nat → FieldType := fun k => match k with
  | 0 => .array .int
  | _ => .int
abbrev wsX100 : List Cond := u_ws RX10 TX10 2
theorem nmX10 : ∀ a, a < 2 → ∀ b, b < 2 → a ≠ b → (TX10 a).2.1 ≠ (TX10 b).2.1 := by decide +kernel
theorem tyX10_ok : ∀ k, k < 2 → parseFieldDescriptor (TX10 k).2.2.1 = some (tyX10 k) := by decide +kernel
abbrev cX10_init : ByteArray := prog_12_method_1_code
def yX10_init : MethodName := ⟨RX10, "<init>", "()V"⟩
abbrev cX10_size : ByteArray := prog_12_method_2_code
def yX10_size : MethodName := ⟨RX10, "size", "()I"⟩
abbrev cX10_hasRoom : ByteArray := prog_12_method_3_code
def yX10_hasRoom : MethodName := ⟨RX10, "hasRoom", "(I)Z"⟩
abbrev cX10_canGive : ByteArray := prog_12_method_4_code
def yX10_canGive : MethodName := ⟨RX10, "canGive", "(III)Z"⟩
abbrev cX10_takeWord : ByteArray := prog_12_method_5_code
def yX10_takeWord : MethodName := ⟨RX10, "takeWord", "(I)V"⟩
abbrev cX10_takeByte : ByteArray := prog_12_method_6_code
def yX10_takeByte : MethodName := ⟨RX10, "takeByte", "(I)V"⟩
abbrev cX10_at : ByteArray := prog_12_method_7_code
def yX10_at : MethodName := ⟨RX10, "at", "(I)I"⟩
abbrev cX10_empty : ByteArray := prog_12_method_8_code
def yX10_empty : MethodName := ⟨RX10, "empty", "()V"⟩
def RX11 : String := "HomesickStamps"
def TX11 : u_T := fun k => match k with
  | 0 => ("HomesickStamps", "tape", "LHomesickStamps$Tape;", true)
  | 1 => ("HomesickStamps", "republic", "LHomesickStamps$Republic;", true)
  | 2 => ("HomesickStamps", "now", "LHomesickStamps$Letters;", true)
  | 3 => ("HomesickStamps", "kept", "LHomesickStamps$Letters;", true)
  | 4 => ("HomesickStamps", "trial", "LHomesickStamps$Letters;", true)
  | 5 => ("HomesickStamps", "clerk", "LHomesickStamps$Clerk;", true)
  | 6 => ("HomesickStamps", "crew", "LHomesickStamps$Crew;", true)
  | 7 => ("HomesickStamps", "riddles", "LHomesickStamps$Riddles;", true)
  | 8 => ("HomesickStamps", "sheetReader", "LHomesickStamps$SheetReader;", true)
  | 9 => ("HomesickStamps", "postReader", "LHomesickStamps$PostReader;", true)
  | 10 => ("HomesickStamps", "lawReader", "LHomesickStamps$LawReader;", true)
  | 11 => ("HomesickStamps", "seen", "[I", true)
  | 12 => ("HomesickStamps", "rules", "LHomesickStamps$Law;", false)
  | 13 => ("HomesickStamps", "spareRules", "LHomesickStamps$Law;", false)
  | _ => ("HomesickStamps", "wasKept", "Z", false)
def tyX11 : Nat → FieldType := fun k => match k with
  | 0 => .object "HomesickStamps$Tape"
  | 1 => .object "HomesickStamps$Republic"
  | 2 => .object "HomesickStamps$Letters"
  | 3 => .object "HomesickStamps$Letters"
  | 4 => .object "HomesickStamps$Letters"
  | 5 => .object "HomesickStamps$Clerk"
  | 6 => .object "HomesickStamps$Crew"
  | 7 => .object "HomesickStamps$Riddles"
  | 8 => .object "HomesickStamps$SheetReader"
  | 9 => .object "HomesickStamps$PostReader"
  | 10 => .object "HomesickStamps$LawReader"
  | 11 => .array .int
  | 12 => .object "HomesickStamps$Law"
  | 13 => .object "HomesickStamps$Law"
  | _ => .boolean
abbrev wsX110 : List Cond := u_ws RX11 TX11 15
theorem nmX11 : ∀ a, a < 15 → ∀ b, b < 15 → a ≠ b → (TX11 a).2.1 ≠ (TX11 b).2.1 := by decide +kernel
theorem tyX11_ok : ∀ k, k < 15 → parseFieldDescriptor (TX11 k).2.2.1 = some (tyX11 k) := by decide +kernel
abbrev cX11_init : ByteArray := prog_1_method_1_code
def yX11_init : MethodName := ⟨RX11, "<init>", "()V"⟩
abbrev cX11_mint : ByteArray := prog_1_method_2_code
def yX11_mint : MethodName := ⟨RX11, "mint", "(III)Z"⟩
abbrev cX11_feed : ByteArray := prog_1_method_3_code
def yX11_feed : MethodName := ⟨RX11, "feed", "(IIIII)I"⟩
abbrev cX11_law : ByteArray := prog_1_method_4_code
def yX11_law : MethodName := ⟨RX11, "law", "(I)I"⟩
abbrev cX11_sheet : ByteArray := prog_1_method_5_code
def yX11_sheet : MethodName := ⟨RX11, "sheet", "(I)I"⟩
abbrev cX11_post : ByteArray := prog_1_method_6_code
def yX11_post : MethodName := ⟨RX11, "post", "(I)I"⟩
abbrev cX11_days : ByteArray := prog_1_method_7_code
def yX11_days : MethodName := ⟨RX11, "days", "(I)I"⟩
abbrev cX11_tried : ByteArray := prog_1_method_8_code
def yX11_tried : MethodName := ⟨RX11, "tried", "(II)I"⟩
abbrev cX11_canBeTried : ByteArray := prog_1_method_9_code
def yX11_canBeTried : MethodName := ⟨RX11, "canBeTried", "(I)Z"⟩
abbrev cX11_letterIs : ByteArray := prog_1_method_10_code
def yX11_letterIs : MethodName := ⟨RX11, "letterIs", "(II)I"⟩
abbrev cX11_plainPull : ByteArray := prog_1_method_11_code
def yX11_plainPull : MethodName := ⟨RX11, "plainPull", "(IZ)I"⟩
abbrev cX11_stampIs : ByteArray := prog_1_method_12_code
def yX11_stampIs : MethodName := ⟨RX11, "stampIs", "(II)I"⟩
abbrev cX11_comes : ByteArray := prog_1_method_13_code
def yX11_comes : MethodName := ⟨RX11, "comes", "(III)I"⟩
abbrev cX11_atRest : ByteArray := prog_1_method_14_code
def yX11_atRest : MethodName := ⟨RX11, "atRest", "(II)I"⟩
abbrev cX11_meet : ByteArray := prog_1_method_15_code
def yX11_meet : MethodName := ⟨RX11, "meet", "(III)I"⟩
abbrev cX11_again : ByteArray := prog_1_method_16_code
def yX11_again : MethodName := ⟨RX11, "again", "(II)I"⟩
abbrev cX11_markSeen : ByteArray := prog_1_method_17_code
def yX11_markSeen : MethodName := ⟨RX11, "markSeen", "(I)V"⟩
abbrev cX11_wasSeen : ByteArray := prog_1_method_18_code
def yX11_wasSeen : MethodName := ⟨RX11, "wasSeen", "(I)Z"⟩
abbrev cX11_home : ByteArray := prog_1_method_19_code
def yX11_home : MethodName := ⟨RX11, "home", "(II)I"⟩
abbrev cX11_grainsFrom : ByteArray := prog_1_method_20_code
def yX11_grainsFrom : MethodName := ⟨RX11, "grainsFrom", "(II)I"⟩
abbrev cX11_lying : ByteArray := prog_1_method_21_code
def yX11_lying : MethodName := ⟨RX11, "lying", "(I)I"⟩
abbrev cX11_stamped : ByteArray := prog_1_method_22_code
def yX11_stamped : MethodName := ⟨RX11, "stamped", "(IIIII)I"⟩
abbrev cX11_hang : ByteArray := prog_1_method_23_code
def yX11_hang : MethodName := ⟨RX11, "hang", "(III)I"⟩
abbrev cX11_falseOnes : ByteArray := prog_1_method_24_code
def yX11_falseOnes : MethodName := ⟨RX11, "falseOnes", "(IIIII)I"⟩
abbrev cX11_gatherCrew : ByteArray := prog_1_method_25_code
def yX11_gatherCrew : MethodName := ⟨RX11, "gatherCrew", "(I)Z"⟩
abbrev cX11_sizeOrBits : ByteArray := prog_1_method_26_code
def yX11_sizeOrBits : MethodName := ⟨RX11, "sizeOrBits", "(II)I"⟩
abbrev cX11_printed : ByteArray := prog_1_method_27_code
def yX11_printed : MethodName := ⟨RX11, "printed", "(I)I"⟩
abbrev cX11_fitsAllPulls : ByteArray := prog_1_method_28_code
def yX11_fitsAllPulls : MethodName := ⟨RX11, "fitsAllPulls", "(II)Z"⟩
abbrev cX11_ship : ByteArray := prog_1_method_29_code
def yX11_ship : MethodName := ⟨RX11, "ship", "(II)I"⟩
abbrev cX11_mule : ByteArray := prog_1_method_30_code
def yX11_mule : MethodName := ⟨RX11, "mule", "(III)I"⟩
abbrev cX11_marks : ByteArray := prog_1_method_31_code
def yX11_marks : MethodName := ⟨RX11, "marks", "(II)I"⟩
abbrev cX11_franked : ByteArray := prog_1_method_32_code
def yX11_franked : MethodName := ⟨RX11, "franked", "(II)I"⟩
abbrev cX11_exchange : ByteArray := prog_1_method_33_code
def yX11_exchange : MethodName := ⟨RX11, "exchange", "(II)I"⟩
abbrev cX11_seed : ByteArray := prog_1_method_34_code
def yX11_seed : MethodName := ⟨RX11, "seed", "(I)Z"⟩
abbrev cX11_keep : ByteArray := prog_1_method_35_code
def yX11_keep : MethodName := ⟨RX11, "keep", "()I"⟩
abbrev cX11_undo : ByteArray := prog_1_method_36_code
def yX11_undo : MethodName := ⟨RX11, "undo", "()Z"⟩
abbrev cX11_check : ByteArray := prog_1_method_37_code
def yX11_check : MethodName := ⟨RX11, "check", "(I)I"⟩
abbrev cX11_count : ByteArray := prog_1_method_38_code
def yX11_count : MethodName := ⟨RX11, "count", "(I)I"⟩
abbrev cX11_within : ByteArray := prog_1_method_39_code
def yX11_within : MethodName := ⟨RX11, "within", "(III)Z"⟩
abbrev cX11_isPlace : ByteArray := prog_1_method_40_code
def yX11_isPlace : MethodName := ⟨RX11, "isPlace", "(I)Z"⟩
abbrev cX11_side : ByteArray := prog_1_method_41_code
def yX11_side : MethodName := ⟨RX11, "side", "(II)I"⟩
abbrev cX11_wayBits : ByteArray := prog_1_method_42_code
def yX11_wayBits : MethodName := ⟨RX11, "wayBits", "(II)I"⟩
abbrev cX11_wayOfPulls : ByteArray := prog_1_method_43_code
def yX11_wayOfPulls : MethodName := ⟨RX11, "wayOfPulls", "(III)I"⟩
abbrev cX11_stepFrom : ByteArray := prog_1_method_44_code
def yX11_stepFrom : MethodName := ⟨RX11, "stepFrom", "(II)I"⟩
def RX12 : String := "HomesickStampsModel"
def TX12 : u_T := fun k => match k with
  | 0 => ("HomesickStampsModel", "now", "[I", true)
  | 1 => ("HomesickStampsModel", "aside", "[I", true)
  | 2 => ("HomesickStampsModel", "kept", "[I", true)
  | 3 => ("HomesickStampsModel", "mintAt", "[I", true)
  | 4 => ("HomesickStampsModel", "mintOf", "[I", true)
  | 5 => ("HomesickStampsModel", "wholeOf", "[I", true)
  | 6 => ("HomesickStampsModel", "isWall", "[Z", true)
  | 7 => ("HomesickStampsModel", "wasWall", "[Z", true)
  | 8 => ("HomesickStampsModel", "stampMany", "I", false)
  | 9 => ("HomesickStampsModel", "tape", "[B", true)
  | 10 => ("HomesickStampsModel", "taped", "I", false)
  | 11 => ("HomesickStampsModel", "place0", "I", false)
  | 12 => ("HomesickStampsModel", "length0", "I", false)
  | 13 => ("HomesickStampsModel", "fault", "I", false)
  | 14 => ("HomesickStampsModel", "number0", "I", false)
  | 15 => ("HomesickStampsModel", "open", "I", false)
  | 16 => ("HomesickStampsModel", "codeMany", "I", false)
  | 17 => ("HomesickStampsModel", "waiting", "I", false)
  | 18 => ("HomesickStampsModel", "saidMany", "I", false)
  | 19 => ("HomesickStampsModel", "clauses", "I", false)
  | 20 => ("HomesickStampsModel", "said", "[I", true)
  | 21 => ("HomesickStampsModel", "waitsAt", "[I", true)
  | 22 => ("HomesickStampsModel", "saidLetter", "[I", true)
  | 23 => ("HomesickStampsModel", "saidFrom", "[I", true)
  | 24 => ("HomesickStampsModel", "saidHalf", "[I", true)
  | 25 => ("HomesickStampsModel", "saidTo", "[I", true)
  | 26 => ("HomesickStampsModel", "codes", "[I", true)
  | 27 => ("HomesickStampsModel", "clauseOf", "[I", true)
  | 28 => ("HomesickStampsModel", "codeFrom", "[I", true)
  | 29 => ("HomesickStampsModel", "codeHalf", "[I", true)
  | 30 => ("HomesickStampsModel", "codeTo", "[I", true)
  | 31 => ("HomesickStampsModel", "stack", "[I", true)
  | 32 => ("HomesickStampsModel", "facts", "[I", true)
  | 33 => ("HomesickStampsModel", "newStamps", "[I", true)
  | 34 => ("HomesickStampsModel", "roundFrom", "[I", true)
  | 35 => ("HomesickStampsModel", "roundAt", "[I", true)
  | 36 => ("HomesickStampsModel", "roundTimes", "[I", true)
  | 37 => ("HomesickStampsModel", "newMany", "I", false)
  | 38 => ("HomesickStampsModel", "rounds", "I", false)
  | 39 => ("HomesickStampsModel", "stampFrom", "I", false)
  | 40 => ("HomesickStampsModel", "stampTimes", "I", false)
  | 41 => ("HomesickStampsModel", "lines", "I", false)
  | 42 => ("HomesickStampsModel", "spot0", "I", false)
  | 43 => ("HomesickStampsModel", "pullAcross", "I", false)
  | 44 => ("HomesickStampsModel", "pullAlong", "I", false)
  | 45 => ("HomesickStampsModel", "stepsNow", "I", false)
  | 46 => ("HomesickStampsModel", "fallenNow", "I", false)
  | 47 => ("HomesickStampsModel", "usesNow", "[I", true)
  | 48 => ("HomesickStampsModel", "wasAt", "[Z", true)
  | 49 => ("HomesickStampsModel", "someOf", "[I", true)
  | 50 => ("HomesickStampsModel", "fewestFor", "[I", true)
  | 51 => ("HomesickStampsModel", "getsOf", "[I", true)
  | _ => ("HomesickStampsModel", "isKept", "Z", false)
def tyX12 : Nat → FieldType := fun k => match k with
  | 0 => .array .int
  | 1 => .array .int
  | 2 => .array .int
  | 3 => .array .int
  | 4 => .array .int
  | 5 => .array .int
  | 6 => .array .boolean
  | 7 => .array .boolean
  | 8 => .int
  | 9 => .array .byte
  | 10 => .int
  | 11 => .int
  | 12 => .int
  | 13 => .int
  | 14 => .int
  | 15 => .int
  | 16 => .int
  | 17 => .int
  | 18 => .int
  | 19 => .int
  | 20 => .array .int
  | 21 => .array .int
  | 22 => .array .int
  | 23 => .array .int
  | 24 => .array .int
  | 25 => .array .int
  | 26 => .array .int
  | 27 => .array .int
  | 28 => .array .int
  | 29 => .array .int
  | 30 => .array .int
  | 31 => .array .int
  | 32 => .array .int
  | 33 => .array .int
  | 34 => .array .int
  | 35 => .array .int
  | 36 => .array .int
  | 37 => .int
  | 38 => .int
  | 39 => .int
  | 40 => .int
  | 41 => .int
  | 42 => .int
  | 43 => .int
  | 44 => .int
  | 45 => .int
  | 46 => .int
  | 47 => .array .int
  | 48 => .array .boolean
  | 49 => .array .int
  | 50 => .array .int
  | 51 => .array .int
  | _ => .boolean
abbrev wsX120 : List Cond := u_ws RX12 TX12 53
theorem nmX12 : ∀ a, a < 53 → ∀ b, b < 53 → a ≠ b → (TX12 a).2.1 ≠ (TX12 b).2.1 := by decide +kernel
theorem tyX12_ok : ∀ k, k < 53 → parseFieldDescriptor (TX12 k).2.2.1 = some (tyX12 k) := by decide +kernel
abbrev cX12_init : ByteArray := prog_14_method_1_code
def yX12_init : MethodName := ⟨RX12, "<init>", "()V"⟩
abbrev cX12_in : ByteArray := prog_14_method_2_code
def yX12_in : MethodName := ⟨RX12, "in", "(III)Z"⟩
abbrev cX12_min : ByteArray := prog_14_method_3_code
def yX12_min : MethodName := ⟨RX12, "min", "(II)I"⟩
abbrev cX12_max : ByteArray := prog_14_method_4_code
def yX12_max : MethodName := ⟨RX12, "max", "(II)I"⟩
abbrev cX12_size : ByteArray := prog_14_method_5_code
def yX12_size : MethodName := ⟨RX12, "size", "(I)I"⟩
abbrev cX12_sign : ByteArray := prog_14_method_6_code
def yX12_sign : MethodName := ⟨RX12, "sign", "(I)I"⟩
abbrev cX12_has : ByteArray := prog_14_method_7_code
def yX12_has : MethodName := ⟨RX12, "has", "(II)Z"⟩
abbrev cX12_bits : ByteArray := prog_14_method_8_code
def yX12_bits : MethodName := ⟨RX12, "bits", "(I)I"⟩
abbrev cX12_copies : ByteArray := prog_14_method_9_code
def yX12_copies : MethodName := ⟨RX12, "copies", "([I[I)V"⟩
abbrev cX12_isPlace : ByteArray := prog_14_method_10_code
def yX12_isPlace : MethodName := ⟨RX12, "isPlace", "(I)Z"⟩
abbrev cX12_isTold : ByteArray := prog_14_method_11_code
def yX12_isTold : MethodName := ⟨RX12, "isTold", "(I)Z"⟩
abbrev cX12_isStamp : ByteArray := prog_14_method_12_code
def yX12_isStamp : MethodName := ⟨RX12, "isStamp", "(I)Z"⟩
abbrev cX12_sticks : ByteArray := prog_14_method_13_code
def yX12_sticks : MethodName := ⟨RX12, "sticks", "(II)Z"⟩
abbrev cX12_mint : ByteArray := prog_14_method_14_code
def yX12_mint : MethodName := ⟨RX12, "mint", "(III)Z"⟩
abbrev cX12_types : ByteArray := prog_14_method_15_code
def yX12_types : MethodName := ⟨RX12, "types", "(I)V"⟩
abbrev cX12_feed : ByteArray := prog_14_method_16_code
def yX12_feed : MethodName := ⟨RX12, "feed", "(IIIII)I"⟩
abbrev cX12_octet : ByteArray := prog_14_method_17_code
def yX12_octet : MethodName := ⟨RX12, "octet", "(I)I"⟩
abbrev cX12_here : ByteArray := prog_14_method_18_code
def yX12_here : MethodName := ⟨RX12, "here", "()I"⟩
abbrev cX12_isDigit : ByteArray := prog_14_method_19_code
def yX12_isDigit : MethodName := ⟨RX12, "isDigit", "()Z"⟩
abbrev cX12_wrongAt : ByteArray := prog_14_method_20_code
def yX12_wrongAt : MethodName := ⟨RX12, "wrongAt", "(II)Z"⟩
abbrev cX12_takes : ByteArray := prog_14_method_21_code
def yX12_takes : MethodName := ⟨RX12, "takes", "(I)Z"⟩
abbrev cX12_readsNumber : ByteArray := prog_14_method_22_code
def yX12_readsNumber : MethodName := ⟨RX12, "readsNumber", "()Z"⟩
abbrev cX12_notes : ByteArray := prog_14_method_23_code
def yX12_notes : MethodName := ⟨RX12, "notes", "(II)V"⟩
abbrev cX12_opens : ByteArray := prog_14_method_24_code
def yX12_opens : MethodName := ⟨RX12, "opens", "(I)Z"⟩
abbrev cX12_waitTop : ByteArray := prog_14_method_25_code
def yX12_waitTop : MethodName := ⟨RX12, "waitTop", "()I"⟩
abbrev cX12_factOf : ByteArray := prog_14_method_26_code
def yX12_factOf : MethodName := ⟨RX12, "factOf", "(I)I"⟩
abbrev cX12_sumSign : ByteArray := prog_14_method_27_code
def yX12_sumSign : MethodName := ⟨RX12, "sumSign", "(I)I"⟩
abbrev cX12_closesSums : ByteArray := prog_14_method_28_code
def yX12_closesSums : MethodName := ⟨RX12, "closesSums", "(Z)V"⟩
abbrev cX12_readsFactor : ByteArray := prog_14_method_29_code
def yX12_readsFactor : MethodName := ⟨RX12, "readsFactor", "()Z"⟩
abbrev cX12_hasOpenSum : ByteArray := prog_14_method_30_code
def yX12_hasOpenSum : MethodName := ⟨RX12, "hasOpenSum", "(I)Z"⟩
abbrev cX12_readsSum : ByteArray := prog_14_method_31_code
def yX12_readsSum : MethodName := ⟨RX12, "readsSum", "()Z"⟩
abbrev cX12_endsPiece : ByteArray := prog_14_method_32_code
def yX12_endsPiece : MethodName := ⟨RX12, "endsPiece", "()V"⟩
abbrev cX12_lands : ByteArray := prog_14_method_33_code
def yX12_lands : MethodName := ⟨RX12, "lands", "(Z)V"⟩
abbrev cX12_jumps : ByteArray := prog_14_method_34_code
def yX12_jumps : MethodName := ⟨RX12, "jumps", "(I)V"⟩
abbrev cX12_readsCompared : ByteArray := prog_14_method_35_code
def yX12_readsCompared : MethodName := ⟨RX12, "readsCompared", "()Z"⟩
abbrev cX12_readsCondition : ByteArray := prog_14_method_36_code
def yX12_readsCondition : MethodName := ⟨RX12, "readsCondition", "()Z"⟩
abbrev cX12_readsRule : ByteArray := prog_14_method_37_code
def yX12_readsRule : MethodName := ⟨RX12, "readsRule", "()Z"⟩
abbrev cX12_beginsText : ByteArray := prog_14_method_38_code
def yX12_beginsText : MethodName := ⟨RX12, "beginsText", "(I)V"⟩
abbrev cX12_law : ByteArray := prog_14_method_39_code
def yX12_law : MethodName := ⟨RX12, "law", "(I)I"⟩
abbrev cX12_reckon : ByteArray := prog_14_method_40_code
def yX12_reckon : MethodName := ⟨RX12, "reckon", "(III)I"⟩
abbrev cX12_reckonsTo : ByteArray := prog_14_method_41_code
def yX12_reckonsTo : MethodName := ⟨RX12, "reckonsTo", "(II)I"⟩
abbrev cX12_byLaw : ByteArray := prog_14_method_42_code
def yX12_byLaw : MethodName := ⟨RX12, "byLaw", "(II)I"⟩
abbrev cX12_holdsAny : ByteArray := prog_14_method_43_code
def yX12_holdsAny : MethodName := ⟨RX12, "holdsAny", "(I)Z"⟩
abbrev cX12_readsTimes : ByteArray := prog_14_method_44_code
def yX12_readsTimes : MethodName := ⟨RX12, "readsTimes", "()V"⟩
abbrev cX12_repeats : ByteArray := prog_14_method_45_code
def yX12_repeats : MethodName := ⟨RX12, "repeats", "(III)Z"⟩
abbrev cX12_readsStamp : ByteArray := prog_14_method_46_code
def yX12_readsStamp : MethodName := ⟨RX12, "readsStamp", "()Z"⟩
abbrev cX12_sheet : ByteArray := prog_14_method_47_code
def yX12_sheet : MethodName := ⟨RX12, "sheet", "(I)I"⟩
abbrev cX12_readsWithin : ByteArray := prog_14_method_48_code
def yX12_readsWithin : MethodName := ⟨RX12, "readsWithin", "(II)Z"⟩
abbrev cX12_readsSpot : ByteArray := prog_14_method_49_code
def yX12_readsSpot : MethodName := ⟨RX12, "readsSpot", "()Z"⟩
abbrev cX12_readsWall : ByteArray := prog_14_method_50_code
def yX12_readsWall : MethodName := ⟨RX12, "readsWall", "()Z"⟩
abbrev cX12_readsLetter : ByteArray := prog_14_method_51_code
def yX12_readsLetter : MethodName := ⟨RX12, "readsLetter", "(I)Z"⟩
abbrev cX12_readsLine : ByteArray := prog_14_method_52_code
def yX12_readsLine : MethodName := ⟨RX12, "readsLine", "()Z"⟩
abbrev cX12_post : ByteArray := prog_14_method_53_code
def yX12_post : MethodName := ⟨RX12, "post", "(I)I"⟩
abbrev cX12_acrossTo : ByteArray := prog_14_method_54_code
def yX12_acrossTo : MethodName := ⟨RX12, "acrossTo", "(II)I"⟩
abbrev cX12_alongTo : ByteArray := prog_14_method_55_code
def yX12_alongTo : MethodName := ⟨RX12, "alongTo", "(II)I"⟩
abbrev cX12_stepFrom : ByteArray := prog_14_method_56_code
def yX12_stepFrom : MethodName := ⟨RX12, "stepFrom", "(IIII)I"⟩
abbrev cX12_stampsOn : ByteArray := prog_14_method_57_code
def yX12_stampsOn : MethodName := ⟨RX12, "stampsOn", "(I)I"⟩
abbrev cX12_feels : ByteArray := prog_14_method_58_code
def yX12_feels : MethodName := ⟨RX12, "feels", "(III)V"⟩
abbrev cX12_asksStamp : ByteArray := prog_14_method_59_code
def yX12_asksStamp : MethodName := ⟨RX12, "asksStamp", "(III)V"⟩
abbrev cX12_letterGoes : ByteArray := prog_14_method_60_code
def yX12_letterGoes : MethodName := ⟨RX12, "letterGoes", "(I)V"⟩
abbrev cX12_dayGoes : ByteArray := prog_14_method_61_code
def yX12_dayGoes : MethodName := ⟨RX12, "dayGoes", "()V"⟩
abbrev cX12_daysGo : ByteArray := prog_14_method_62_code
def yX12_daysGo : MethodName := ⟨RX12, "daysGo", "(I)V"⟩
abbrev cX12_days : ByteArray := prog_14_method_63_code
def yX12_days : MethodName := ⟨RX12, "days", "(I)I"⟩
abbrev cX12_walledSet : ByteArray := prog_14_method_64_code
def yX12_walledSet : MethodName := ⟨RX12, "walledSet", "()I"⟩
abbrev cX12_canTry : ByteArray := prog_14_method_65_code
def yX12_canTry : MethodName := ⟨RX12, "canTry", "(I)Z"⟩
abbrev cX12_tried : ByteArray := prog_14_method_66_code
def yX12_tried : MethodName := ⟨RX12, "tried", "(II)I"⟩
abbrev cX12_lowestOn : ByteArray := prog_14_method_67_code
def yX12_lowestOn : MethodName := ⟨RX12, "lowestOn", "(I)I"⟩
abbrev cX12_plainPull : ByteArray := prog_14_method_68_code
def yX12_plainPull : MethodName := ⟨RX12, "plainPull", "(IZ)I"⟩
abbrev cX12_letterIs : ByteArray := prog_14_method_69_code
def yX12_letterIs : MethodName := ⟨RX12, "letterIs", "(II)I"⟩
abbrev cX12_letterOf : ByteArray := prog_14_method_70_code
def yX12_letterOf : MethodName := ⟨RX12, "letterOf", "(I)I"⟩
abbrev cX12_stampIs : ByteArray := prog_14_method_71_code
def yX12_stampIs : MethodName := ⟨RX12, "stampIs", "(II)I"⟩
abbrev cX12_comes : ByteArray := prog_14_method_72_code
def yX12_comes : MethodName := ⟨RX12, "comes", "(III)I"⟩
abbrev cX12_atRest : ByteArray := prog_14_method_73_code
def yX12_atRest : MethodName := ⟨RX12, "atRest", "(II)I"⟩
abbrev cX12_meet : ByteArray := prog_14_method_74_code
def yX12_meet : MethodName := ⟨RX12, "meet", "(III)I"⟩
abbrev cX12_again : ByteArray := prog_14_method_75_code
def yX12_again : MethodName := ⟨RX12, "again", "(II)I"⟩
abbrev cX12_home : ByteArray := prog_14_method_76_code
def yX12_home : MethodName := ⟨RX12, "home", "(II)I"⟩
abbrev cX12_lying : ByteArray := prog_14_method_77_code
def yX12_lying : MethodName := ⟨RX12, "lying", "(I)I"⟩
abbrev cX12_takesStamps : ByteArray := prog_14_method_78_code
def yX12_takesStamps : MethodName := ⟨RX12, "takesStamps", "(I)Z"⟩
abbrev cX12_pullOf : ByteArray := prog_14_method_79_code
def yX12_pullOf : MethodName := ⟨RX12, "pullOf", "(IIIZ)I"⟩
abbrev cX12_stepBy : ByteArray := prog_14_method_80_code
def yX12_stepBy : MethodName := ⟨RX12, "stepBy", "(III)I"⟩
abbrev cX12_brings : ByteArray := prog_14_method_81_code
def yX12_brings : MethodName := ⟨RX12, "brings", "(IIIII)Z"⟩
abbrev cX12_isLess : ByteArray := prog_14_method_82_code
def yX12_isLess : MethodName := ⟨RX12, "isLess", "(II)Z"⟩
abbrev cX12_stamped : ByteArray := prog_14_method_83_code
def yX12_stamped : MethodName := ⟨RX12, "stamped", "(IIIII)I"⟩
abbrev cX12_hang : ByteArray := prog_14_method_84_code
def yX12_hang : MethodName := ⟨RX12, "hang", "(III)I"⟩
abbrev cX12_falseOnes : ByteArray := prog_14_method_85_code
def yX12_falseOnes : MethodName := ⟨RX12, "falseOnes", "(IIIII)I"⟩
abbrev cX12_liesSo : ByteArray := prog_14_method_86_code
def yX12_liesSo : MethodName := ⟨RX12, "liesSo", "(II)Z"⟩
abbrev cX12_printed : ByteArray := prog_14_method_87_code
def yX12_printed : MethodName := ⟨RX12, "printed", "(I)I"⟩
abbrev cX12_sumOf : ByteArray := prog_14_method_88_code
def yX12_sumOf : MethodName := ⟨RX12, "sumOf", "(II)I"⟩
abbrev cX12_ship : ByteArray := prog_14_method_89_code
def yX12_ship : MethodName := ⟨RX12, "ship", "(II)I"⟩
abbrev cX12_mule : ByteArray := prog_14_method_90_code
def yX12_mule : MethodName := ⟨RX12, "mule", "(III)I"⟩
abbrev cX12_laysFewest : ByteArray := prog_14_method_91_code
def yX12_laysFewest : MethodName := ⟨RX12, "laysFewest", "(I)Z"⟩
abbrev cX12_marks : ByteArray := prog_14_method_92_code
def yX12_marks : MethodName := ⟨RX12, "marks", "(II)I"⟩
abbrev cX12_franked : ByteArray := prog_14_method_93_code
def yX12_franked : MethodName := ⟨RX12, "franked", "(II)I"⟩
abbrev cX12_areRows : ByteArray := prog_14_method_94_code
def yX12_areRows : MethodName := ⟨RX12, "areRows", "(I)Z"⟩
abbrev cX12_likesOf : ByteArray := prog_14_method_95_code
def yX12_likesOf : MethodName := ⟨RX12, "likesOf", "(III)I"⟩
abbrev cX12_changesRing : ByteArray := prog_14_method_96_code
def yX12_changesRing : MethodName := ⟨RX12, "changesRing", "(II)I"⟩
abbrev cX12_exchange : ByteArray := prog_14_method_97_code
def yX12_exchange : MethodName := ⟨RX12, "exchange", "(II)I"⟩
abbrev cX12_seed : ByteArray := prog_14_method_98_code
def yX12_seed : MethodName := ⟨RX12, "seed", "(I)Z"⟩
abbrev cX12_keep : ByteArray := prog_14_method_99_code
def yX12_keep : MethodName := ⟨RX12, "keep", "()I"⟩
abbrev cX12_undo : ByteArray := prog_14_method_100_code
def yX12_undo : MethodName := ⟨RX12, "undo", "()Z"⟩
abbrev cX12_check : ByteArray := prog_14_method_101_code
def yX12_check : MethodName := ⟨RX12, "check", "(I)I"⟩
abbrev cX12_toldMints : ByteArray := prog_14_method_102_code
def yX12_toldMints : MethodName := ⟨RX12, "toldMints", "()I"⟩
abbrev cX12_toldLetters : ByteArray := prog_14_method_103_code
def yX12_toldLetters : MethodName := ⟨RX12, "toldLetters", "()I"⟩
abbrev cX12_count : ByteArray := prog_14_method_104_code
def yX12_count : MethodName := ⟨RX12, "count", "(I)I"⟩
def RJx145de : String := "java/io/Serializable"
def TJx145de : u_T := fun k => match k with
  | _ => ("", "", "", false)
def tyJx145de : Nat → FieldType := fun k => match k with
  | _ => .int
abbrev wsJx145de0 : List Cond := u_ws RJx145de TJx145de 0
theorem nmJx145de : ∀ a, a < 0 → ∀ b, b < 0 → a ≠ b → (TJx145de a).2.1 ≠ (TJx145de b).2.1 := by decide +kernel
theorem tyJx145de_ok : ∀ k, k < 0 → parseFieldDescriptor (TJx145de k).2.2.1 = some (tyJx145de k) := by decide +kernel
def RJx9f9b0 : String := "java/lang/CharSequence"
def TJx9f9b0 : u_T := fun k => match k with
  | _ => ("", "", "", false)
def tyJx9f9b0 : Nat → FieldType := fun k => match k with
  | _ => .int
abbrev wsJx9f9b00 : List Cond := u_ws RJx9f9b0 TJx9f9b0 0
theorem nmJx9f9b0 : ∀ a, a < 0 → ∀ b, b < 0 → a ≠ b → (TJx9f9b0 a).2.1 ≠ (TJx9f9b0 b).2.1 := by decide +kernel
theorem tyJx9f9b0_ok : ∀ k, k < 0 → parseFieldDescriptor (TJx9f9b0 k).2.2.1 = some (tyJx9f9b0 k) := by decide +kernel
def RJ11 : String := "java/lang/Character"
def TJ11 : u_T := fun k => match k with
  | _ => ("", "", "", false)
def tyJ11 : Nat → FieldType := fun k => match k with
  | _ => .int
abbrev wsJ110 : List Cond := u_ws RJ11 TJ11 0
theorem nmJ11 : ∀ a, a < 0 → ∀ b, b < 0 → a ≠ b → (TJ11 a).2.1 ≠ (TJ11 b).2.1 := by decide +kernel
theorem tyJ11_ok : ∀ k, k < 0 → parseFieldDescriptor (TJ11 k).2.2.1 = some (tyJ11 k) := by decide +kernel
abbrev cJ11_isValidCodePoint_9a6ad : ByteArray := prog_15_method_11_code
def yJ11_isValidCodePoint_9a6ad : MethodName := ⟨RJ11, "isValidCodePoint", "(I)Z"⟩
abbrev cJ11_highSurrogate_5068e : ByteArray := prog_15_method_28_code
def yJ11_highSurrogate_5068e : MethodName := ⟨RJ11, "highSurrogate", "(I)C"⟩
abbrev cJ11_lowSurrogate_5068e : ByteArray := prog_15_method_29_code
def yJ11_lowSurrogate_5068e : MethodName := ⟨RJ11, "lowSurrogate", "(I)C"⟩
def RJxb160c : String := "java/lang/Comparable"
def TJxb160c : u_T := fun k => match k with
  | _ => ("", "", "", false)
def tyJxb160c : Nat → FieldType := fun k => match k with
  | _ => .int
abbrev wsJxb160c0 : List Cond := u_ws RJxb160c TJxb160c 0
theorem nmJxb160c : ∀ a, a < 0 → ∀ b, b < 0 → a ≠ b → (TJxb160c a).2.1 ≠ (TJxb160c b).2.1 := by decide +kernel
theorem tyJxb160c_ok : ∀ k, k < 0 → parseFieldDescriptor (TJxb160c k).2.2.1 = some (tyJxb160c k) := by decide +kernel
def RJ6 : String := "java/lang/Integer"
def TJ6 : u_T := fun k => match k with
  | _ => ("", "", "", false)
def tyJ6 : Nat → FieldType := fun k => match k with
  | _ => .int
abbrev wsJ60 : List Cond := u_ws RJ6 TJ6 0
theorem nmJ6 : ∀ a, a < 0 → ∀ b, b < 0 → a ≠ b → (TJ6 a).2.1 ≠ (TJ6 b).2.1 := by decide +kernel
theorem tyJ6_ok : ∀ k, k < 0 → parseFieldDescriptor (TJ6 k).2.2.1 = some (tyJ6 k) := by decide +kernel
abbrev cJ6_numberOfTrailingZeros_0f7a4 : ByteArray := prog_16_method_48_code
def yJ6_numberOfTrailingZeros_0f7a4 : MethodName := ⟨RJ6, "numberOfTrailingZeros", "(I)I"⟩
abbrev cJ6_bitCount_0f7a4 : ByteArray := prog_16_method_49_code
def yJ6_bitCount_0f7a4 : MethodName := ⟨RJ6, "bitCount", "(I)I"⟩
def RJ9 : String := "java/lang/Math"
def TJ9 : u_T := fun k => match k with
  | _ => ("", "", "", false)
def tyJ9 : Nat → FieldType := fun k => match k with
  | _ => .int
abbrev wsJ90 : List Cond := u_ws RJ9 TJ9 0
theorem nmJ9 : ∀ a, a < 0 → ∀ b, b < 0 → a ≠ b → (TJ9 a).2.1 ≠ (TJ9 b).2.1 := by decide +kernel
theorem tyJ9_ok : ∀ k, k < 0 → parseFieldDescriptor (TJ9 k).2.2.1 = some (tyJ9 k) := by decide +kernel
abbrev cJ9_abs_0f7a4 : ByteArray := prog_17_method_59_code
def yJ9_abs_0f7a4 : MethodName := ⟨RJ9, "abs", "(I)I"⟩
abbrev cJ9_max_7cf53 : ByteArray := prog_17_method_65_code
def yJ9_max_7cf53 : MethodName := ⟨RJ9, "max", "(II)I"⟩
abbrev cJ9_min_7cf53 : ByteArray := prog_17_method_69_code
def yJ9_min_7cf53 : MethodName := ⟨RJ9, "min", "(II)I"⟩
def RJ0 : String := "java/lang/String"
def TJ0 : u_T := fun k => match k with
  | _ => ("", "", "", false)
def tyJ0 : Nat → FieldType := fun k => match k with
  | _ => .int
abbrev wsJ00 : List Cond := u_ws RJ0 TJ0 0
theorem nmJ0 : ∀ a, a < 0 → ∀ b, b < 0 → a ≠ b → (TJ0 a).2.1 ≠ (TJ0 b).2.1 := by decide +kernel
theorem tyJ0_ok : ∀ k, k < 0 → parseFieldDescriptor (TJ0 k).2.2.1 = some (tyJ0 k) := by decide +kernel
abbrev cJ0_length_8abf5 : ByteArray := prog_18_method_54_code
def yJ0_length_8abf5 : MethodName := ⟨RJ0, "length", "()I"⟩
abbrev cJ0_indexOf_0f7a4 : ByteArray := prog_18_method_79_code
def yJ0_indexOf_0f7a4 : MethodName := ⟨RJ0, "indexOf", "(I)I"⟩
abbrev cJ0_indexOf_7cf53 : ByteArray := prog_18_method_80_code
def yJ0_indexOf_7cf53 : MethodName := ⟨RJ0, "indexOf", "(II)I"⟩
abbrev cJ0_coder_7d493 : ByteArray := prog_18_method_152_code
def yJ0_coder_7d493 : MethodName := ⟨RJ0, "coder", "()B"⟩
abbrev cJ0_isLatin1_aae02 : ByteArray := prog_18_method_154_code
def yJ0_isLatin1_aae02 : MethodName := ⟨RJ0, "isLatin1", "()Z"⟩
abbrev cJ0_checkBoundsBeginEnd_23922 : ByteArray := prog_18_method_158_code
def yJ0_checkBoundsBeginEnd_23922 : MethodName := ⟨RJ0, "checkBoundsBeginEnd", "(III)V"⟩
def RJ1 : String := "java/lang/StringLatin1"
def TJ1 : u_T := fun k => match k with
  | _ => ("", "", "", false)
def tyJ1 : Nat → FieldType := fun k => match k with
  | _ => .int
abbrev wsJ10 : List Cond := u_ws RJ1 TJ1 0
theorem nmJ1 : ∀ a, a < 0 → ∀ b, b < 0 → a ≠ b → (TJ1 a).2.1 ≠ (TJ1 b).2.1 := by decide +kernel
theorem tyJ1_ok : ∀ k, k < 0 → parseFieldDescriptor (TJ1 k).2.2.1 = some (tyJ1 k) := by decide +kernel
abbrev cJ1_canEncode_9a6ad : ByteArray := prog_19_method_4_code
def yJ1_canEncode_9a6ad : MethodName := ⟨RJ1, "canEncode", "(I)Z"⟩
abbrev cJ1_indexOf_4cfef : ByteArray := prog_19_method_22_code
def yJ1_indexOf_4cfef : MethodName := ⟨RJ1, "indexOf", "([BIII)I"⟩
abbrev cJ1_indexOfChar_4cfef : ByteArray := prog_19_method_23_code
def yJ1_indexOfChar_4cfef : MethodName := ⟨RJ1, "indexOfChar", "([BIII)I"⟩
def RJ2 : String := "java/lang/StringUTF16"
def TJ2 : u_T := fun k => match k with
  | _ => ("", "", "", false)
def tyJ2 : Nat → FieldType := fun k => match k with
  | _ => .int
abbrev wsJ20 : List Cond := u_ws RJ2 TJ2 0
theorem nmJ2 : ∀ a, a < 0 → ∀ b, b < 0 → a ≠ b → (TJ2 a).2.1 ≠ (TJ2 b).2.1 := by decide +kernel
theorem tyJ2_ok : ∀ k, k < 0 → parseFieldDescriptor (TJ2 k).2.2.1 = some (tyJ2 k) := by decide +kernel
abbrev cJ2_getChar_3b067 : ByteArray := prog_20_method_5_code
def yJ2_getChar_3b067 : MethodName := ⟨RJ2, "getChar", "([BI)C"⟩
abbrev cJ2_length_9d52b : ByteArray := prog_20_method_6_code
def yJ2_length_9d52b : MethodName := ⟨RJ2, "length", "([B)I"⟩
abbrev cJ2_indexOf_4cfef : ByteArray := prog_20_method_40_code
def yJ2_indexOf_4cfef : MethodName := ⟨RJ2, "indexOf", "([BIII)I"⟩
abbrev cJ2_indexOfChar_4cfef : ByteArray := prog_20_method_47_code
def yJ2_indexOfChar_4cfef : MethodName := ⟨RJ2, "indexOfChar", "([BIII)I"⟩
abbrev cJ2_indexOfCharUnsafe_4cfef : ByteArray := prog_20_method_48_code
def yJ2_indexOfCharUnsafe_4cfef : MethodName := ⟨RJ2, "indexOfCharUnsafe", "([BIII)I"⟩
abbrev cJ2_indexOfSupplementary_4cfef : ByteArray := prog_20_method_49_code
def yJ2_indexOfSupplementary_4cfef : MethodName := ⟨RJ2, "indexOfSupplementary", "([BIII)I"⟩
abbrev cJ2_checkBoundsBeginEnd_d044e : ByteArray := prog_20_method_93_code
def yJ2_checkBoundsBeginEnd_d044e : MethodName := ⟨RJ2, "checkBoundsBeginEnd", "(II[B)V"⟩
def RJ10 : String := "java/lang/System"
def TJ10 : u_T := fun k => match k with
  | _ => ("", "", "", false)
def tyJ10 : Nat → FieldType := fun k => match k with
  | _ => .int
abbrev wsJ100 : List Cond := u_ws RJ10 TJ10 0
theorem nmJ10 : ∀ a, a < 0 → ∀ b, b < 0 → a ≠ b → (TJ10 a).2.1 ≠ (TJ10 b).2.1 := by decide +kernel
theorem tyJ10_ok : ∀ k, k < 0 → parseFieldDescriptor (TJ10 k).2.2.1 = some (tyJ10 k) := by decide +kernel
def RJxfd54e : String := "java/lang/constant/Constable"
def TJxfd54e : u_T := fun k => match k with
  | _ => ("", "", "", false)
def tyJxfd54e : Nat → FieldType := fun k => match k with
  | _ => .int
abbrev wsJxfd54e0 : List Cond := u_ws RJxfd54e TJxfd54e 0
theorem nmJxfd54e : ∀ a, a < 0 → ∀ b, b < 0 → a ≠ b → (TJxfd54e a).2.1 ≠ (TJxfd54e b).2.1 := by decide +kernel
theorem tyJxfd54e_ok : ∀ k, k < 0 → parseFieldDescriptor (TJxfd54e k).2.2.1 = some (tyJxfd54e k) := by decide +kernel
def RJx3cf43 : String := "java/lang/constant/ConstantDesc"
def TJx3cf43 : u_T := fun k => match k with
  | _ => ("", "", "", false)
def tyJx3cf43 : Nat → FieldType := fun k => match k with
  | _ => .int
abbrev wsJx3cf430 : List Cond := u_ws RJx3cf43 TJx3cf43 0
theorem nmJx3cf43 : ∀ a, a < 0 → ∀ b, b < 0 → a ≠ b → (TJx3cf43 a).2.1 ≠ (TJx3cf43 b).2.1 := by decide +kernel
theorem tyJx3cf43_ok : ∀ k, k < 0 → parseFieldDescriptor (TJx3cf43 k).2.2.1 = some (tyJx3cf43 k) := by decide +kernel
def RJ7 : String := "java/util/Arrays"
def TJ7 : u_T := fun k => match k with
  | _ => ("", "", "", false)
def tyJ7 : Nat → FieldType := fun k => match k with
  | _ => .int
abbrev wsJ70 : List Cond := u_ws RJ7 TJ7 0
theorem nmJ7 : ∀ a, a < 0 → ∀ b, b < 0 → a ≠ b → (TJ7 a).2.1 ≠ (TJ7 b).2.1 := by decide +kernel
theorem tyJ7_ok : ∀ k, k < 0 → parseFieldDescriptor (TJ7 k).2.2.1 = some (tyJ7 k) := by decide +kernel
abbrev cJ7_fill_53178 : ByteArray := prog_22_method_103_code
def yJ7_fill_53178 : MethodName := ⟨RJ7, "fill", "([II)V"⟩
def RJ3 : String := "jdk/internal/util/Preconditions"
def TJ3 : u_T := fun k => match k with
  | _ => ("", "", "", false)
def tyJ3 : Nat → FieldType := fun k => match k with
  | _ => .int
abbrev wsJ30 : List Cond := u_ws RJ3 TJ3 0
theorem nmJ3 : ∀ a, a < 0 → ∀ b, b < 0 → a ≠ b → (TJ3 a).2.1 ≠ (TJ3 b).2.1 := by decide +kernel
theorem tyJ3_ok : ∀ k, k < 0 → parseFieldDescriptor (TJ3 k).2.2.1 = some (tyJ3 k) := by decide +kernel
abbrev cJ3_checkFromToIndex_8c36e : ByteArray := prog_23_method_12_code
def yJ3_checkFromToIndex_8c36e : MethodName := ⟨RJ3, "checkFromToIndex", "(IIILjava/util/function/BiFunction;)I"⟩
def RL : String := "HomesickStampsLaw"
abbrev cL_law : ByteArray := code
def yL_law : MethodName := ⟨RL, "law", "([I)Z"⟩
abbrev vwCl : List vw_C := [(RX0, TX0, 6), (RX1, TX1, 5), (RX2, TX2, 10), (RX3, TX3, 6), (RX4, TX4, 8), (RX5, TX5, 11), (RX7, TX7, 8), (RX8, TX8, 5), (RX9, TX9, 8), (RX10, TX10, 2), (RX11, TX11, 15), (RX12, TX12, 53)]
def TB : List Cond := lw_tbl.filter goodWord
theorem mTB {w : Cond} (i : Nat) (h : tables_1[i]? = some w) (hg : goodWord w = true) : w ∈ TB := List.mem_filter.mpr ⟨List.mem_append_right _ (List.mem_of_getElem? h), hg⟩
theorem mTBs {w : Cond} (i : Nat) (h : (k2_sels lw_privs)[i]? = some w) (hg : goodWord w = true) : w ∈ TB := List.mem_filter.mpr ⟨List.mem_append_left _ (List.mem_of_getElem? h), hg⟩
theorem mTBl {ws : List Cond} (ps : List Nat) (hp : ws = ps.filterMap (fun i => tables_1[i]?)) (h : ws.all goodWord = true) : ∀ w ∈ ws, w ∈ TB := by
  intro w hw
  have h1 := List.all_eq_true.mp h w hw
  rw [hp] at hw
  obtain ⟨i, -, hi⟩ := List.mem_filterMap.mp hw
  exact mTB i hi h1
theorem TB_good {w : Cond} (h : w ∈ TB) : (w.onTables && w.keeps) = true ∨ ∃ ty, w = .arrayClass ty := good_of_word (List.mem_filter.mp h).2
theorem TB_tbl {w : Cond} (h : w ∈ TB) : w ∈ lw_tbl := (List.mem_filter.mp h).1
def isNest : Cond → Bool
  | .methodLinkNest .. => true
  | .fieldLinkNest .. => true
  | _ => false
def NW : List Cond := tables_1.filter isNest
theorem mNW {w : Cond} (i : Nat) (h : tables_1[i]? = some w) (hg : isNest w = true) : w ∈ NW := List.mem_filter.mpr ⟨List.mem_of_getElem? h, hg⟩
theorem NW_warm {w : Cond} (h : w ∈ NW) {s U : State} (hW : s.WarmedH U.vm) (hZ : va_Nw w s) : va_Nw w U := by
  have h2 := (List.mem_filter.mp h).2
  cases w <;> first | exact va_Nw.warmM hW hZ | exact va_Nw.warmF hW hZ | (exact absurd h2 (by simp [isNest]))
theorem NW_same {w : Cond} (h : w ∈ NW) {s U : State} (hW : s.vm = U.vm) (hZ : va_Nw w s) : va_Nw w U := by
  have h2 := (List.mem_filter.mp h).2
  cases w <;> first | exact va_Nw.same rfl hW hZ | (exact absurd h2 (by simp [isNest]))
theorem NW_of {w : Cond} (h : w ∈ NW) {A : Array Value} {U : State} (hZ : w.before A U = true) : va_Nw w U := by
  have h2 := (List.mem_filter.mp h).2
  cases w <;> first | exact va_Nw.of rfl hZ | (exact absurd h2 (by simp [isNest]))
theorem NW_tbl {w : Cond} (h : w ∈ NW) : w ∈ lw_tbl := List.mem_append_right _ (List.mem_filter.mp h).1
theorem mT1 {w : Cond} (i : Nat) (h : tables_1_1[i]? = some w) (hg : goodWord w = true) : w ∈ TB := List.mem_filter.mpr ⟨List.mem_append_right _ (show w ∈ tables_1 from (List.mem_append_left _ (List.mem_of_getElem? h))), hg⟩
theorem mTl1 {ws : List Cond} (ps : List Nat) (hp : ws = ps.filterMap (fun i => tables_1_1[i]?)) (h : ws.all goodWord = true) : ∀ w ∈ ws, w ∈ TB := by
  intro w hw
  have h1 := List.all_eq_true.mp h w hw
  rw [hp] at hw
  obtain ⟨i, -, hi⟩ := List.mem_filterMap.mp hw
  exact mT1 i hi h1
theorem mT2 {w : Cond} (i : Nat) (h : tables_1_2[i]? = some w) (hg : goodWord w = true) : w ∈ TB := List.mem_filter.mpr ⟨List.mem_append_right _ (show w ∈ tables_1 from (List.mem_append_right _ (List.mem_append_left _ (List.mem_of_getElem? h)))), hg⟩
theorem mTl2 {ws : List Cond} (ps : List Nat) (hp : ws = ps.filterMap (fun i => tables_1_2[i]?)) (h : ws.all goodWord = true) : ∀ w ∈ ws, w ∈ TB := by
  intro w hw
  have h1 := List.all_eq_true.mp h w hw
  rw [hp] at hw
  obtain ⟨i, -, hi⟩ := List.mem_filterMap.mp hw
  exact mT2 i hi h1
theorem mT3 {w : Cond} (i : Nat) (h : tables_1_3[i]? = some w) (hg : goodWord w = true) : w ∈ TB := List.mem_filter.mpr ⟨List.mem_append_right _ (show w ∈ tables_1 from (List.mem_append_right _ (List.mem_append_right _ (List.mem_append_left _ (List.mem_of_getElem? h))))), hg⟩
theorem mTl3 {ws : List Cond} (ps : List Nat) (hp : ws = ps.filterMap (fun i => tables_1_3[i]?)) (h : ws.all goodWord = true) : ∀ w ∈ ws, w ∈ TB := by
  intro w hw
  have h1 := List.all_eq_true.mp h w hw
  rw [hp] at hw
  obtain ⟨i, -, hi⟩ := List.mem_filterMap.mp hw
  exact mT3 i hi h1
theorem mT4 {w : Cond} (i : Nat) (h : tables_1_4[i]? = some w) (hg : goodWord w = true) : w ∈ TB := List.mem_filter.mpr ⟨List.mem_append_right _ (show w ∈ tables_1 from (List.mem_append_right _ (List.mem_append_right _ (List.mem_append_right _ (List.mem_append_left _ (List.mem_of_getElem? h)))))), hg⟩
theorem mTl4 {ws : List Cond} (ps : List Nat) (hp : ws = ps.filterMap (fun i => tables_1_4[i]?)) (h : ws.all goodWord = true) : ∀ w ∈ ws, w ∈ TB := by
  intro w hw
  have h1 := List.all_eq_true.mp h w hw
  rw [hp] at hw
  obtain ⟨i, -, hi⟩ := List.mem_filterMap.mp hw
  exact mT4 i hi h1
theorem mT5 {w : Cond} (i : Nat) (h : tables_1_5[i]? = some w) (hg : goodWord w = true) : w ∈ TB := List.mem_filter.mpr ⟨List.mem_append_right _ (show w ∈ tables_1 from (List.mem_append_right _ (List.mem_append_right _ (List.mem_append_right _ (List.mem_append_right _ (List.mem_append_left _ (List.mem_of_getElem? h))))))), hg⟩
theorem mTl5 {ws : List Cond} (ps : List Nat) (hp : ws = ps.filterMap (fun i => tables_1_5[i]?)) (h : ws.all goodWord = true) : ∀ w ∈ ws, w ∈ TB := by
  intro w hw
  have h1 := List.all_eq_true.mp h w hw
  rw [hp] at hw
  obtain ⟨i, -, hi⟩ := List.mem_filterMap.mp hw
  exact mT5 i hi h1
theorem mT6 {w : Cond} (i : Nat) (h : tables_1_6[i]? = some w) (hg : goodWord w = true) : w ∈ TB := List.mem_filter.mpr ⟨List.mem_append_right _ (show w ∈ tables_1 from (List.mem_append_right _ (List.mem_append_right _ (List.mem_append_right _ (List.mem_append_right _ (List.mem_append_right _ (List.mem_append_left _ (List.mem_of_getElem? h)))))))), hg⟩
theorem mTl6 {ws : List Cond} (ps : List Nat) (hp : ws = ps.filterMap (fun i => tables_1_6[i]?)) (h : ws.all goodWord = true) : ∀ w ∈ ws, w ∈ TB := by
  intro w hw
  have h1 := List.all_eq_true.mp h w hw
  rw [hp] at hw
  obtain ⟨i, -, hi⟩ := List.mem_filterMap.mp hw
  exact mT6 i hi h1
theorem mT7 {w : Cond} (i : Nat) (h : tables_1_7[i]? = some w) (hg : goodWord w = true) : w ∈ TB := List.mem_filter.mpr ⟨List.mem_append_right _ (show w ∈ tables_1 from (List.mem_append_right _ (List.mem_append_right _ (List.mem_append_right _ (List.mem_append_right _ (List.mem_append_right _ (List.mem_append_right _ (List.mem_append_left _ (List.mem_of_getElem? h))))))))), hg⟩
theorem mTl7 {ws : List Cond} (ps : List Nat) (hp : ws = ps.filterMap (fun i => tables_1_7[i]?)) (h : ws.all goodWord = true) : ∀ w ∈ ws, w ∈ TB := by
  intro w hw
  have h1 := List.all_eq_true.mp h w hw
  rw [hp] at hw
  obtain ⟨i, -, hi⟩ := List.mem_filterMap.mp hw
  exact mT7 i hi h1
theorem mT8 {w : Cond} (i : Nat) (h : tables_1_8[i]? = some w) (hg : goodWord w = true) : w ∈ TB := List.mem_filter.mpr ⟨List.mem_append_right _ (show w ∈ tables_1 from (List.mem_append_right _ (List.mem_append_right _ (List.mem_append_right _ (List.mem_append_right _ (List.mem_append_right _ (List.mem_append_right _ (List.mem_append_right _ (List.mem_of_getElem? h))))))))), hg⟩
theorem mTl8 {ws : List Cond} (ps : List Nat) (hp : ws = ps.filterMap (fun i => tables_1_8[i]?)) (h : ws.all goodWord = true) : ∀ w ∈ ws, w ∈ TB := by
  intro w hw
  have h1 := List.all_eq_true.mp h w hw
  rw [hp] at hw
  obtain ⟨i, -, hi⟩ := List.mem_filterMap.mp hw
  exact mT8 i hi h1
theorem inX0 : ∀ w ∈ wsX00, w ∈ TB := mTl1 [124, 126, 128, 130, 132, 134] (by decide +kernel) (by decide +kernel)
theorem inX1 : ∀ w ∈ wsX10, w ∈ TB := mTl1 [148, 150, 152, 154, 156] (by decide +kernel) (by decide +kernel)
theorem inX2 : ∀ w ∈ wsX20, w ∈ TB := mTl2 [21, 23, 25, 27, 29, 31, 33, 35, 37, 39] (by decide +kernel) (by decide +kernel)
theorem inX3 : ∀ w ∈ wsX30, w ∈ TB := mTl2 [51, 52, 53, 54, 55, 49] (by decide +kernel) (by decide +kernel)
theorem inX4 : ∀ w ∈ wsX40, w ∈ TB := mTl1 [95, 97, 99, 101, 103, 105, 107, 109] (by decide +kernel) (by decide +kernel)
theorem inX5 : ∀ w ∈ wsX50, w ∈ TB := mTBl [239, 240, 241, 242, 243, 227, 229, 231, 233, 235, 237] (by decide +kernel) (by decide +kernel)
theorem inX7 : ∀ w ∈ wsX70, w ∈ TB := mTl1 [60, 62, 64, 66, 68, 70, 72, 74] (by decide +kernel) (by decide +kernel)
theorem inX8 : ∀ w ∈ wsX80, w ∈ TB := mTl1 [170, 172, 174, 176, 178] (by decide +kernel) (by decide +kernel)
theorem inX9 : ∀ w ∈ wsX90, w ∈ TB := mTl1 [204, 206, 208, 210, 212, 198, 200, 202] (by decide +kernel) (by decide +kernel)
theorem inX10 : ∀ w ∈ wsX100, w ∈ TB := mTl1 [40, 42] (by decide +kernel) (by decide +kernel)
theorem inX11 : ∀ w ∈ wsX110, w ∈ TB := mTl2 [72, 74, 76, 78, 80, 82, 84, 86, 88, 90, 92, 94, 96, 98, 100] (by decide +kernel) (by decide +kernel)
theorem inX12 : ∀ w ∈ wsX120, w ∈ TB := mTl6 [99, 101, 103, 105, 107, 109, 111, 113, 115, 117, 119, 121, 123, 125, 127, 129, 131, 133, 135, 137, 139, 141, 143, 145, 147, 149, 151, 153, 155, 157, 159, 161, 163, 165, 167, 169, 171, 173, 175, 177, 179, 181, 183, 185, 187, 189, 191, 193, 195, 197, 199, 201, 203] (by decide +kernel) (by decide +kernel)
