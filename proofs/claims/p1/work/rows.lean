section
-- ===== PART A: goes FIRST, ahead of the names: the tables' words, and 'selects' of the private methods out of them =====
/-- a private method of a class that the tables say can be made, by its rows of tables_1 -/
def lw_okq (q : MethodName × Nat) : Prop := (q.1.cls ≠ "java/lang/invoke/MethodHandle" ∧ q.1.cls ≠ "java/lang/invoke/VarHandle") ∧ Cond.instantiable q.1.cls q.2 ∈ tables_1 ∧ Cond.privateMethod q.1 ∈ tables_1 ∧ Cond.instanceMethod q.1 ∈ tables_1
theorem lw_p0 : lw_okq (⟨"HomesickStamps$Tape", "takeByte", "(I)V"⟩, 2) := ⟨⟨by decide +kernel, by decide +kernel⟩, List.mem_of_getElem? (i := 32) (by decide +kernel), List.mem_of_getElem? (i := 368) (by decide +kernel), List.mem_of_getElem? (i := 369) (by decide +kernel)⟩
theorem lw_p1 : lw_okq (⟨"HomesickStamps$LawReader", "readRule", "()Z"⟩, 6) := ⟨⟨by decide +kernel, by decide +kernel⟩, List.mem_of_getElem? (i := 283) (by decide +kernel), List.mem_of_getElem? (i := 406) (by decide +kernel), List.mem_of_getElem? (i := 407) (by decide +kernel)⟩
theorem lw_p2 : lw_okq (⟨"HomesickStamps$LawReader", "readSum", "(I)Z"⟩, 6) := ⟨⟨by decide +kernel, by decide +kernel⟩, List.mem_of_getElem? (i := 283) (by decide +kernel), List.mem_of_getElem? (i := 440) (by decide +kernel), List.mem_of_getElem? (i := 441) (by decide +kernel)⟩
theorem lw_p3 : lw_okq (⟨"HomesickStamps$LawReader", "readTerm", "(I)Z"⟩, 6) := ⟨⟨by decide +kernel, by decide +kernel⟩, List.mem_of_getElem? (i := 283) (by decide +kernel), List.mem_of_getElem? (i := 444) (by decide +kernel), List.mem_of_getElem? (i := 445) (by decide +kernel)⟩
theorem lw_p4 : lw_okq (⟨"HomesickStamps$LawReader", "readFactor", "(I)Z"⟩, 6) := ⟨⟨by decide +kernel, by decide +kernel⟩, List.mem_of_getElem? (i := 283) (by decide +kernel), List.mem_of_getElem? (i := 448) (by decide +kernel), List.mem_of_getElem? (i := 449) (by decide +kernel)⟩
theorem lw_p5 : lw_okq (⟨"HomesickStamps$LawReader", "readAny", "(I)Z"⟩, 6) := ⟨⟨by decide +kernel, by decide +kernel⟩, List.mem_of_getElem? (i := 283) (by decide +kernel), List.mem_of_getElem? (i := 564) (by decide +kernel), List.mem_of_getElem? (i := 565) (by decide +kernel)⟩
theorem lw_p6 : lw_okq (⟨"HomesickStamps$LawReader", "readAll", "(I)Z"⟩, 6) := ⟨⟨by decide +kernel, by decide +kernel⟩, List.mem_of_getElem? (i := 283) (by decide +kernel), List.mem_of_getElem? (i := 568) (by decide +kernel), List.mem_of_getElem? (i := 569) (by decide +kernel)⟩
theorem lw_p7 : lw_okq (⟨"HomesickStamps$LawReader", "readTest", "(I)Z"⟩, 6) := ⟨⟨by decide +kernel, by decide +kernel⟩, List.mem_of_getElem? (i := 283) (by decide +kernel), List.mem_of_getElem? (i := 572) (by decide +kernel), List.mem_of_getElem? (i := 573) (by decide +kernel)⟩
theorem lw_p8 : lw_okq (⟨"HomesickStamps$LawReader", "readComparison", "(I)Z"⟩, 6) := ⟨⟨by decide +kernel, by decide +kernel⟩, List.mem_of_getElem? (i := 283) (by decide +kernel), List.mem_of_getElem? (i := 576) (by decide +kernel), List.mem_of_getElem? (i := 577) (by decide +kernel)⟩
theorem lw_p9 : lw_okq (⟨"HomesickStamps$SheetReader", "readStamps", "(I)Z"⟩, 8) := ⟨⟨by decide +kernel, by decide +kernel⟩, List.mem_of_getElem? (i := 182) (by decide +kernel), List.mem_of_getElem? (i := 612) (by decide +kernel), List.mem_of_getElem? (i := 613) (by decide +kernel)⟩
theorem lw_p10 : lw_okq (⟨"HomesickStamps$SheetReader", "readOne", "(I)Z"⟩, 8) := ⟨⟨by decide +kernel, by decide +kernel⟩, List.mem_of_getElem? (i := 182) (by decide +kernel), List.mem_of_getElem? (i := 616) (by decide +kernel), List.mem_of_getElem? (i := 617) (by decide +kernel)⟩
theorem lw_p11 : lw_okq (⟨"HomesickStamps$SheetReader", "readRound", "(III)Z"⟩, 8) := ⟨⟨by decide +kernel, by decide +kernel⟩, List.mem_of_getElem? (i := 182) (by decide +kernel), List.mem_of_getElem? (i := 630) (by decide +kernel), List.mem_of_getElem? (i := 631) (by decide +kernel)⟩
theorem lw_p12 : lw_okq (⟨"HomesickStamps$SheetReader", "add", "(II)V"⟩, 8) := ⟨⟨by decide +kernel, by decide +kernel⟩, List.mem_of_getElem? (i := 182) (by decide +kernel), List.mem_of_getElem? (i := 637) (by decide +kernel), List.mem_of_getElem? (i := 638) (by decide +kernel)⟩
theorem lw_p13 : lw_okq (⟨"HomesickStamps$SheetReader", "readStamp", "(II)Z"⟩, 8) := ⟨⟨by decide +kernel, by decide +kernel⟩, List.mem_of_getElem? (i := 182) (by decide +kernel), List.mem_of_getElem? (i := 641) (by decide +kernel), List.mem_of_getElem? (i := 642) (by decide +kernel)⟩
theorem lw_p14 : lw_okq (⟨"HomesickStamps$PostReader", "readLine", "()Z"⟩, 11) := ⟨⟨by decide +kernel, by decide +kernel⟩, List.mem_of_getElem? (i := 216) (by decide +kernel), List.mem_of_getElem? (i := 687) (by decide +kernel), List.mem_of_getElem? (i := 688) (by decide +kernel)⟩
theorem lw_p15 : lw_okq (⟨"HomesickStamps$PostReader", "readPlace", "()I"⟩, 11) := ⟨⟨by decide +kernel, by decide +kernel⟩, List.mem_of_getElem? (i := 216) (by decide +kernel), List.mem_of_getElem? (i := 704) (by decide +kernel), List.mem_of_getElem? (i := 705) (by decide +kernel)⟩
def lw_privs_1 : List (MethodName × Nat) := [(⟨"HomesickStamps$Tape", "takeByte", "(I)V"⟩, 2), (⟨"HomesickStamps$LawReader", "readRule", "()Z"⟩, 6), (⟨"HomesickStamps$LawReader", "readSum", "(I)Z"⟩, 6), (⟨"HomesickStamps$LawReader", "readTerm", "(I)Z"⟩, 6), (⟨"HomesickStamps$LawReader", "readFactor", "(I)Z"⟩, 6), (⟨"HomesickStamps$LawReader", "readAny", "(I)Z"⟩, 6), (⟨"HomesickStamps$LawReader", "readAll", "(I)Z"⟩, 6), (⟨"HomesickStamps$LawReader", "readTest", "(I)Z"⟩, 6), (⟨"HomesickStamps$LawReader", "readComparison", "(I)Z"⟩, 6), (⟨"HomesickStamps$SheetReader", "readStamps", "(I)Z"⟩, 8), (⟨"HomesickStamps$SheetReader", "readOne", "(I)Z"⟩, 8), (⟨"HomesickStamps$SheetReader", "readRound", "(III)Z"⟩, 8), (⟨"HomesickStamps$SheetReader", "add", "(II)V"⟩, 8), (⟨"HomesickStamps$SheetReader", "readStamp", "(II)Z"⟩, 8), (⟨"HomesickStamps$PostReader", "readLine", "()Z"⟩, 11), (⟨"HomesickStamps$PostReader", "readPlace", "()I"⟩, 11)]
theorem lw_r1 : ∀ q ∈ lw_privs_1, lw_okq q := List.forall_mem_cons.mpr ⟨lw_p0, List.forall_mem_cons.mpr ⟨lw_p1, List.forall_mem_cons.mpr ⟨lw_p2, List.forall_mem_cons.mpr ⟨lw_p3, List.forall_mem_cons.mpr ⟨lw_p4, List.forall_mem_cons.mpr ⟨lw_p5, List.forall_mem_cons.mpr ⟨lw_p6, List.forall_mem_cons.mpr ⟨lw_p7, List.forall_mem_cons.mpr ⟨lw_p8, List.forall_mem_cons.mpr ⟨lw_p9, List.forall_mem_cons.mpr ⟨lw_p10, List.forall_mem_cons.mpr ⟨lw_p11, List.forall_mem_cons.mpr ⟨lw_p12, List.forall_mem_cons.mpr ⟨lw_p13, List.forall_mem_cons.mpr ⟨lw_p14, List.forall_mem_cons.mpr ⟨lw_p15, fun _ h => absurd h List.not_mem_nil⟩⟩⟩⟩⟩⟩⟩⟩⟩⟩⟩⟩⟩⟩⟩⟩
theorem lw_p16 : lw_okq (⟨"HomesickStamps$PostReader", "add", "(III)Z"⟩, 11) := ⟨⟨by decide +kernel, by decide +kernel⟩, List.mem_of_getElem? (i := 216) (by decide +kernel), List.mem_of_getElem? (i := 714) (by decide +kernel), List.mem_of_getElem? (i := 715) (by decide +kernel)⟩
theorem lw_p17 : lw_okq (⟨"HomesickStamps$PostReader", "readOrder", "(II)Z"⟩, 11) := ⟨⟨by decide +kernel, by decide +kernel⟩, List.mem_of_getElem? (i := 216) (by decide +kernel), List.mem_of_getElem? (i := 718) (by decide +kernel), List.mem_of_getElem? (i := 719) (by decide +kernel)⟩
theorem lw_p18 : lw_okq (⟨"HomesickStamps$Clerk", "passLetter", "(LHomesickStamps$Law;LHomesickStamps$Letters;I)I"⟩, 6) := ⟨⟨by decide +kernel, by decide +kernel⟩, List.mem_of_getElem? (i := 113) (by decide +kernel), List.mem_of_getElem? (i := 784) (by decide +kernel), List.mem_of_getElem? (i := 785) (by decide +kernel)⟩
theorem lw_p19 : lw_okq (⟨"HomesickStamps$Clerk", "pull", "(LHomesickStamps$Law;LHomesickStamps$Letters;II)V"⟩, 6) := ⟨⟨by decide +kernel, by decide +kernel⟩, List.mem_of_getElem? (i := 113) (by decide +kernel), List.mem_of_getElem? (i := 814) (by decide +kernel), List.mem_of_getElem? (i := 815) (by decide +kernel)⟩
theorem lw_p20 : lw_okq (⟨"HomesickStamps$Clerk", "learn", "(LHomesickStamps$Letters;II)V"⟩, 6) := ⟨⟨by decide +kernel, by decide +kernel⟩, List.mem_of_getElem? (i := 113) (by decide +kernel), List.mem_of_getElem? (i := 818) (by decide +kernel), List.mem_of_getElem? (i := 819) (by decide +kernel)⟩
theorem lw_p21 : lw_okq (⟨"HomesickStamps$Law", "reckon", "(I[I)I"⟩, 10) := ⟨⟨by decide +kernel, by decide +kernel⟩, List.mem_of_getElem? (i := 246) (by decide +kernel), List.mem_of_getElem? (i := 846) (by decide +kernel), List.mem_of_getElem? (i := 847) (by decide +kernel)⟩
theorem lw_p22 : lw_okq (⟨"HomesickStamps$Law", "doStep", "(I[I)I"⟩, 10) := ⟨⟨by decide +kernel, by decide +kernel⟩, List.mem_of_getElem? (i := 246) (by decide +kernel), List.mem_of_getElem? (i := 850) (by decide +kernel), List.mem_of_getElem? (i := 851) (by decide +kernel)⟩
theorem lw_p23 : lw_okq (⟨"HomesickStamps$Law", "pop", "()I"⟩, 10) := ⟨⟨by decide +kernel, by decide +kernel⟩, List.mem_of_getElem? (i := 246) (by decide +kernel), List.mem_of_getElem? (i := 854) (by decide +kernel), List.mem_of_getElem? (i := 855) (by decide +kernel)⟩
theorem lw_p24 : lw_okq (⟨"HomesickStamps$Law", "push", "(I)V"⟩, 10) := ⟨⟨by decide +kernel, by decide +kernel⟩, List.mem_of_getElem? (i := 246) (by decide +kernel), List.mem_of_getElem? (i := 858) (by decide +kernel), List.mem_of_getElem? (i := 859) (by decide +kernel)⟩
theorem lw_p25 : lw_okq (⟨"HomesickStamps$Law", "joined", "(III)I"⟩, 10) := ⟨⟨by decide +kernel, by decide +kernel⟩, List.mem_of_getElem? (i := 246) (by decide +kernel), List.mem_of_getElem? (i := 862) (by decide +kernel), List.mem_of_getElem? (i := 863) (by decide +kernel)⟩
theorem lw_p26 : lw_okq (⟨"HomesickStamps$Clerk", "step", "(LHomesickStamps$Letters;I)I"⟩, 6) := ⟨⟨by decide +kernel, by decide +kernel⟩, List.mem_of_getElem? (i := 113) (by decide +kernel), List.mem_of_getElem? (i := 885) (by decide +kernel), List.mem_of_getElem? (i := 886) (by decide +kernel)⟩
theorem lw_p27 : lw_okq (⟨"HomesickStamps", "canBeTried", "(I)Z"⟩, 15) := ⟨⟨by decide +kernel, by decide +kernel⟩, List.mem_of_getElem? (i := 24) (by decide +kernel), List.mem_of_getElem? (i := 934) (by decide +kernel), List.mem_of_getElem? (i := 935) (by decide +kernel)⟩
theorem lw_p28 : lw_okq (⟨"HomesickStamps", "plainPull", "(IZ)I"⟩, 15) := ⟨⟨by decide +kernel, by decide +kernel⟩, List.mem_of_getElem? (i := 24) (by decide +kernel), List.mem_of_getElem? (i := 967) (by decide +kernel), List.mem_of_getElem? (i := 968) (by decide +kernel)⟩
theorem lw_p29 : lw_okq (⟨"HomesickStamps", "markSeen", "(I)V"⟩, 15) := ⟨⟨by decide +kernel, by decide +kernel⟩, List.mem_of_getElem? (i := 24) (by decide +kernel), List.mem_of_getElem? (i := 1000) (by decide +kernel), List.mem_of_getElem? (i := 1001) (by decide +kernel)⟩
theorem lw_p30 : lw_okq (⟨"HomesickStamps", "wasSeen", "(I)Z"⟩, 15) := ⟨⟨by decide +kernel, by decide +kernel⟩, List.mem_of_getElem? (i := 24) (by decide +kernel), List.mem_of_getElem? (i := 1004) (by decide +kernel), List.mem_of_getElem? (i := 1005) (by decide +kernel)⟩
theorem lw_p31 : lw_okq (⟨"HomesickStamps", "grainsFrom", "(II)I"⟩, 15) := ⟨⟨by decide +kernel, by decide +kernel⟩, List.mem_of_getElem? (i := 24) (by decide +kernel), List.mem_of_getElem? (i := 1012) (by decide +kernel), List.mem_of_getElem? (i := 1013) (by decide +kernel)⟩
def lw_privs_2 : List (MethodName × Nat) := [(⟨"HomesickStamps$PostReader", "add", "(III)Z"⟩, 11), (⟨"HomesickStamps$PostReader", "readOrder", "(II)Z"⟩, 11), (⟨"HomesickStamps$Clerk", "passLetter", "(LHomesickStamps$Law;LHomesickStamps$Letters;I)I"⟩, 6), (⟨"HomesickStamps$Clerk", "pull", "(LHomesickStamps$Law;LHomesickStamps$Letters;II)V"⟩, 6), (⟨"HomesickStamps$Clerk", "learn", "(LHomesickStamps$Letters;II)V"⟩, 6), (⟨"HomesickStamps$Law", "reckon", "(I[I)I"⟩, 10), (⟨"HomesickStamps$Law", "doStep", "(I[I)I"⟩, 10), (⟨"HomesickStamps$Law", "pop", "()I"⟩, 10), (⟨"HomesickStamps$Law", "push", "(I)V"⟩, 10), (⟨"HomesickStamps$Law", "joined", "(III)I"⟩, 10), (⟨"HomesickStamps$Clerk", "step", "(LHomesickStamps$Letters;I)I"⟩, 6), (⟨"HomesickStamps", "canBeTried", "(I)Z"⟩, 15), (⟨"HomesickStamps", "plainPull", "(IZ)I"⟩, 15), (⟨"HomesickStamps", "markSeen", "(I)V"⟩, 15), (⟨"HomesickStamps", "wasSeen", "(I)Z"⟩, 15), (⟨"HomesickStamps", "grainsFrom", "(II)I"⟩, 15)]
theorem lw_r2 : ∀ q ∈ lw_privs_2, lw_okq q := List.forall_mem_cons.mpr ⟨lw_p16, List.forall_mem_cons.mpr ⟨lw_p17, List.forall_mem_cons.mpr ⟨lw_p18, List.forall_mem_cons.mpr ⟨lw_p19, List.forall_mem_cons.mpr ⟨lw_p20, List.forall_mem_cons.mpr ⟨lw_p21, List.forall_mem_cons.mpr ⟨lw_p22, List.forall_mem_cons.mpr ⟨lw_p23, List.forall_mem_cons.mpr ⟨lw_p24, List.forall_mem_cons.mpr ⟨lw_p25, List.forall_mem_cons.mpr ⟨lw_p26, List.forall_mem_cons.mpr ⟨lw_p27, List.forall_mem_cons.mpr ⟨lw_p28, List.forall_mem_cons.mpr ⟨lw_p29, List.forall_mem_cons.mpr ⟨lw_p30, List.forall_mem_cons.mpr ⟨lw_p31, fun _ h => absurd h List.not_mem_nil⟩⟩⟩⟩⟩⟩⟩⟩⟩⟩⟩⟩⟩⟩⟩⟩
theorem lw_p32 : lw_okq (⟨"HomesickStamps", "gatherCrew", "(I)Z"⟩, 15) := ⟨⟨by decide +kernel, by decide +kernel⟩, List.mem_of_getElem? (i := 24) (by decide +kernel), List.mem_of_getElem? (i := 1024) (by decide +kernel), List.mem_of_getElem? (i := 1025) (by decide +kernel)⟩
theorem lw_p33 : lw_okq (⟨"HomesickStamps$Crew", "placeBehind", "(III)I"⟩, 5) := ⟨⟨by decide +kernel, by decide +kernel⟩, List.mem_of_getElem? (i := 138) (by decide +kernel), List.mem_of_getElem? (i := 1041) (by decide +kernel), List.mem_of_getElem? (i := 1042) (by decide +kernel)⟩
theorem lw_p34 : lw_okq (⟨"HomesickStamps$Crew", "wayFrom", "(II)I"⟩, 5) := ⟨⟨by decide +kernel, by decide +kernel⟩, List.mem_of_getElem? (i := 138) (by decide +kernel), List.mem_of_getElem? (i := 1045) (by decide +kernel), List.mem_of_getElem? (i := 1046) (by decide +kernel)⟩
theorem lw_p35 : lw_okq (⟨"HomesickStamps$Crew", "pullTogether", "(II)V"⟩, 5) := ⟨⟨by decide +kernel, by decide +kernel⟩, List.mem_of_getElem? (i := 138) (by decide +kernel), List.mem_of_getElem? (i := 1049) (by decide +kernel), List.mem_of_getElem? (i := 1050) (by decide +kernel)⟩
theorem lw_p36 : lw_okq (⟨"HomesickStamps$Crew", "hangs", "(II)Z"⟩, 5) := ⟨⟨by decide +kernel, by decide +kernel⟩, List.mem_of_getElem? (i := 138) (by decide +kernel), List.mem_of_getElem? (i := 1081) (by decide +kernel), List.mem_of_getElem? (i := 1082) (by decide +kernel)⟩
theorem lw_p37 : lw_okq (⟨"HomesickStamps", "fitsAllPulls", "(II)Z"⟩, 15) := ⟨⟨by decide +kernel, by decide +kernel⟩, List.mem_of_getElem? (i := 24) (by decide +kernel), List.mem_of_getElem? (i := 1102) (by decide +kernel), List.mem_of_getElem? (i := 1103) (by decide +kernel)⟩
theorem lw_p38 : lw_okq (⟨"HomesickStamps$Riddles", "weightOf", "(II)I"⟩, 5) := ⟨⟨by decide +kernel, by decide +kernel⟩, List.mem_of_getElem? (i := 160) (by decide +kernel), List.mem_of_getElem? (i := 1120) (by decide +kernel), List.mem_of_getElem? (i := 1121) (by decide +kernel)⟩
theorem lw_p39 : lw_okq (⟨"HomesickStamps$Riddles", "isBetterLoad", "(II)Z"⟩, 5) := ⟨⟨by decide +kernel, by decide +kernel⟩, List.mem_of_getElem? (i := 160) (by decide +kernel), List.mem_of_getElem? (i := 1142) (by decide +kernel), List.mem_of_getElem? (i := 1143) (by decide +kernel)⟩
theorem lw_p40 : lw_okq (⟨"HomesickStamps$Riddles", "rowsNameEachOnce", "(I)Z"⟩, 5) := ⟨⟨by decide +kernel, by decide +kernel⟩, List.mem_of_getElem? (i := 160) (by decide +kernel), List.mem_of_getElem? (i := 1177) (by decide +kernel), List.mem_of_getElem? (i := 1178) (by decide +kernel)⟩
theorem lw_p41 : lw_okq (⟨"HomesickStamps$Riddles", "changeInRing", "(II)I"⟩, 5) := ⟨⟨by decide +kernel, by decide +kernel⟩, List.mem_of_getElem? (i := 160) (by decide +kernel), List.mem_of_getElem? (i := 1181) (by decide +kernel), List.mem_of_getElem? (i := 1182) (by decide +kernel)⟩
theorem lw_p42 : lw_okq (⟨"HomesickStamps$Riddles", "likedMost", "(III)I"⟩, 5) := ⟨⟨by decide +kernel, by decide +kernel⟩, List.mem_of_getElem? (i := 160) (by decide +kernel), List.mem_of_getElem? (i := 1189) (by decide +kernel), List.mem_of_getElem? (i := 1190) (by decide +kernel)⟩
theorem lw_p43 : lw_okq (⟨"HomesickStampsModel", "types", "(I)V"⟩, 53) := ⟨⟨by decide +kernel, by decide +kernel⟩, List.mem_of_getElem? (i := 1241) (by decide +kernel), List.mem_of_getElem? (i := 1418) (by decide +kernel), List.mem_of_getElem? (i := 1419) (by decide +kernel)⟩
theorem lw_p44 : lw_okq (⟨"HomesickStampsModel", "beginsText", "(I)V"⟩, 53) := ⟨⟨by decide +kernel, by decide +kernel⟩, List.mem_of_getElem? (i := 1241) (by decide +kernel), List.mem_of_getElem? (i := 1426) (by decide +kernel), List.mem_of_getElem? (i := 1427) (by decide +kernel)⟩
theorem lw_p45 : lw_okq (⟨"HomesickStampsModel", "readsRule", "()Z"⟩, 53) := ⟨⟨by decide +kernel, by decide +kernel⟩, List.mem_of_getElem? (i := 1241) (by decide +kernel), List.mem_of_getElem? (i := 1430) (by decide +kernel), List.mem_of_getElem? (i := 1431) (by decide +kernel)⟩
theorem lw_p46 : lw_okq (⟨"HomesickStampsModel", "here", "()I"⟩, 53) := ⟨⟨by decide +kernel, by decide +kernel⟩, List.mem_of_getElem? (i := 1241) (by decide +kernel), List.mem_of_getElem? (i := 1434) (by decide +kernel), List.mem_of_getElem? (i := 1435) (by decide +kernel)⟩
theorem lw_p47 : lw_okq (⟨"HomesickStampsModel", "wrongAt", "(II)Z"⟩, 53) := ⟨⟨by decide +kernel, by decide +kernel⟩, List.mem_of_getElem? (i := 1241) (by decide +kernel), List.mem_of_getElem? (i := 1438) (by decide +kernel), List.mem_of_getElem? (i := 1439) (by decide +kernel)⟩
def lw_privs_3 : List (MethodName × Nat) := [(⟨"HomesickStamps", "gatherCrew", "(I)Z"⟩, 15), (⟨"HomesickStamps$Crew", "placeBehind", "(III)I"⟩, 5), (⟨"HomesickStamps$Crew", "wayFrom", "(II)I"⟩, 5), (⟨"HomesickStamps$Crew", "pullTogether", "(II)V"⟩, 5), (⟨"HomesickStamps$Crew", "hangs", "(II)Z"⟩, 5), (⟨"HomesickStamps", "fitsAllPulls", "(II)Z"⟩, 15), (⟨"HomesickStamps$Riddles", "weightOf", "(II)I"⟩, 5), (⟨"HomesickStamps$Riddles", "isBetterLoad", "(II)Z"⟩, 5), (⟨"HomesickStamps$Riddles", "rowsNameEachOnce", "(I)Z"⟩, 5), (⟨"HomesickStamps$Riddles", "changeInRing", "(II)I"⟩, 5), (⟨"HomesickStamps$Riddles", "likedMost", "(III)I"⟩, 5), (⟨"HomesickStampsModel", "types", "(I)V"⟩, 53), (⟨"HomesickStampsModel", "beginsText", "(I)V"⟩, 53), (⟨"HomesickStampsModel", "readsRule", "()Z"⟩, 53), (⟨"HomesickStampsModel", "here", "()I"⟩, 53), (⟨"HomesickStampsModel", "wrongAt", "(II)Z"⟩, 53)]
theorem lw_r3 : ∀ q ∈ lw_privs_3, lw_okq q := List.forall_mem_cons.mpr ⟨lw_p32, List.forall_mem_cons.mpr ⟨lw_p33, List.forall_mem_cons.mpr ⟨lw_p34, List.forall_mem_cons.mpr ⟨lw_p35, List.forall_mem_cons.mpr ⟨lw_p36, List.forall_mem_cons.mpr ⟨lw_p37, List.forall_mem_cons.mpr ⟨lw_p38, List.forall_mem_cons.mpr ⟨lw_p39, List.forall_mem_cons.mpr ⟨lw_p40, List.forall_mem_cons.mpr ⟨lw_p41, List.forall_mem_cons.mpr ⟨lw_p42, List.forall_mem_cons.mpr ⟨lw_p43, List.forall_mem_cons.mpr ⟨lw_p44, List.forall_mem_cons.mpr ⟨lw_p45, List.forall_mem_cons.mpr ⟨lw_p46, List.forall_mem_cons.mpr ⟨lw_p47, fun _ h => absurd h List.not_mem_nil⟩⟩⟩⟩⟩⟩⟩⟩⟩⟩⟩⟩⟩⟩⟩⟩
theorem lw_p48 : lw_okq (⟨"HomesickStampsModel", "readsSum", "()Z"⟩, 53) := ⟨⟨by decide +kernel, by decide +kernel⟩, List.mem_of_getElem? (i := 1241) (by decide +kernel), List.mem_of_getElem? (i := 1442) (by decide +kernel), List.mem_of_getElem? (i := 1443) (by decide +kernel)⟩
theorem lw_p49 : lw_okq (⟨"HomesickStampsModel", "readsFactor", "()Z"⟩, 53) := ⟨⟨by decide +kernel, by decide +kernel⟩, List.mem_of_getElem? (i := 1241) (by decide +kernel), List.mem_of_getElem? (i := 1446) (by decide +kernel), List.mem_of_getElem? (i := 1447) (by decide +kernel)⟩
theorem lw_p50 : lw_okq (⟨"HomesickStampsModel", "opens", "(I)Z"⟩, 53) := ⟨⟨by decide +kernel, by decide +kernel⟩, List.mem_of_getElem? (i := 1241) (by decide +kernel), List.mem_of_getElem? (i := 1450) (by decide +kernel), List.mem_of_getElem? (i := 1451) (by decide +kernel)⟩
theorem lw_p51 : lw_okq (⟨"HomesickStampsModel", "isDigit", "()Z"⟩, 53) := ⟨⟨by decide +kernel, by decide +kernel⟩, List.mem_of_getElem? (i := 1241) (by decide +kernel), List.mem_of_getElem? (i := 1455) (by decide +kernel), List.mem_of_getElem? (i := 1456) (by decide +kernel)⟩
theorem lw_p52 : lw_okq (⟨"HomesickStampsModel", "readsNumber", "()Z"⟩, 53) := ⟨⟨by decide +kernel, by decide +kernel⟩, List.mem_of_getElem? (i := 1241) (by decide +kernel), List.mem_of_getElem? (i := 1459) (by decide +kernel), List.mem_of_getElem? (i := 1460) (by decide +kernel)⟩
theorem lw_p53 : lw_okq (⟨"HomesickStampsModel", "notes", "(II)V"⟩, 53) := ⟨⟨by decide +kernel, by decide +kernel⟩, List.mem_of_getElem? (i := 1241) (by decide +kernel), List.mem_of_getElem? (i := 1463) (by decide +kernel), List.mem_of_getElem? (i := 1464) (by decide +kernel)⟩
theorem lw_p54 : lw_okq (⟨"HomesickStampsModel", "closesSums", "(Z)V"⟩, 53) := ⟨⟨by decide +kernel, by decide +kernel⟩, List.mem_of_getElem? (i := 1241) (by decide +kernel), List.mem_of_getElem? (i := 1473) (by decide +kernel), List.mem_of_getElem? (i := 1474) (by decide +kernel)⟩
theorem lw_p55 : lw_okq (⟨"HomesickStampsModel", "waitTop", "()I"⟩, 53) := ⟨⟨by decide +kernel, by decide +kernel⟩, List.mem_of_getElem? (i := 1241) (by decide +kernel), List.mem_of_getElem? (i := 1477) (by decide +kernel), List.mem_of_getElem? (i := 1478) (by decide +kernel)⟩
theorem lw_p56 : lw_okq (⟨"HomesickStampsModel", "hasOpenSum", "(I)Z"⟩, 53) := ⟨⟨by decide +kernel, by decide +kernel⟩, List.mem_of_getElem? (i := 1241) (by decide +kernel), List.mem_of_getElem? (i := 1481) (by decide +kernel), List.mem_of_getElem? (i := 1482) (by decide +kernel)⟩
theorem lw_p57 : lw_okq (⟨"HomesickStampsModel", "readsCondition", "()Z"⟩, 53) := ⟨⟨by decide +kernel, by decide +kernel⟩, List.mem_of_getElem? (i := 1241) (by decide +kernel), List.mem_of_getElem? (i := 1485) (by decide +kernel), List.mem_of_getElem? (i := 1486) (by decide +kernel)⟩
theorem lw_p58 : lw_okq (⟨"HomesickStampsModel", "readsCompared", "()Z"⟩, 53) := ⟨⟨by decide +kernel, by decide +kernel⟩, List.mem_of_getElem? (i := 1241) (by decide +kernel), List.mem_of_getElem? (i := 1489) (by decide +kernel), List.mem_of_getElem? (i := 1490) (by decide +kernel)⟩
theorem lw_p59 : lw_okq (⟨"HomesickStampsModel", "endsPiece", "()V"⟩, 53) := ⟨⟨by decide +kernel, by decide +kernel⟩, List.mem_of_getElem? (i := 1241) (by decide +kernel), List.mem_of_getElem? (i := 1493) (by decide +kernel), List.mem_of_getElem? (i := 1494) (by decide +kernel)⟩
theorem lw_p60 : lw_okq (⟨"HomesickStampsModel", "lands", "(Z)V"⟩, 53) := ⟨⟨by decide +kernel, by decide +kernel⟩, List.mem_of_getElem? (i := 1241) (by decide +kernel), List.mem_of_getElem? (i := 1497) (by decide +kernel), List.mem_of_getElem? (i := 1498) (by decide +kernel)⟩
theorem lw_p61 : lw_okq (⟨"HomesickStampsModel", "jumps", "(I)V"⟩, 53) := ⟨⟨by decide +kernel, by decide +kernel⟩, List.mem_of_getElem? (i := 1241) (by decide +kernel), List.mem_of_getElem? (i := 1501) (by decide +kernel), List.mem_of_getElem? (i := 1502) (by decide +kernel)⟩
theorem lw_p62 : lw_okq (⟨"HomesickStampsModel", "takes", "(I)Z"⟩, 53) := ⟨⟨by decide +kernel, by decide +kernel⟩, List.mem_of_getElem? (i := 1241) (by decide +kernel), List.mem_of_getElem? (i := 1505) (by decide +kernel), List.mem_of_getElem? (i := 1506) (by decide +kernel)⟩
theorem lw_p63 : lw_okq (⟨"HomesickStampsModel", "readsStamp", "()Z"⟩, 53) := ⟨⟨by decide +kernel, by decide +kernel⟩, List.mem_of_getElem? (i := 1241) (by decide +kernel), List.mem_of_getElem? (i := 1513) (by decide +kernel), List.mem_of_getElem? (i := 1514) (by decide +kernel)⟩
def lw_privs_4 : List (MethodName × Nat) := [(⟨"HomesickStampsModel", "readsSum", "()Z"⟩, 53), (⟨"HomesickStampsModel", "readsFactor", "()Z"⟩, 53), (⟨"HomesickStampsModel", "opens", "(I)Z"⟩, 53), (⟨"HomesickStampsModel", "isDigit", "()Z"⟩, 53), (⟨"HomesickStampsModel", "readsNumber", "()Z"⟩, 53), (⟨"HomesickStampsModel", "notes", "(II)V"⟩, 53), (⟨"HomesickStampsModel", "closesSums", "(Z)V"⟩, 53), (⟨"HomesickStampsModel", "waitTop", "()I"⟩, 53), (⟨"HomesickStampsModel", "hasOpenSum", "(I)Z"⟩, 53), (⟨"HomesickStampsModel", "readsCondition", "()Z"⟩, 53), (⟨"HomesickStampsModel", "readsCompared", "()Z"⟩, 53), (⟨"HomesickStampsModel", "endsPiece", "()V"⟩, 53), (⟨"HomesickStampsModel", "lands", "(Z)V"⟩, 53), (⟨"HomesickStampsModel", "jumps", "(I)V"⟩, 53), (⟨"HomesickStampsModel", "takes", "(I)Z"⟩, 53), (⟨"HomesickStampsModel", "readsStamp", "()Z"⟩, 53)]
theorem lw_r4 : ∀ q ∈ lw_privs_4, lw_okq q := List.forall_mem_cons.mpr ⟨lw_p48, List.forall_mem_cons.mpr ⟨lw_p49, List.forall_mem_cons.mpr ⟨lw_p50, List.forall_mem_cons.mpr ⟨lw_p51, List.forall_mem_cons.mpr ⟨lw_p52, List.forall_mem_cons.mpr ⟨lw_p53, List.forall_mem_cons.mpr ⟨lw_p54, List.forall_mem_cons.mpr ⟨lw_p55, List.forall_mem_cons.mpr ⟨lw_p56, List.forall_mem_cons.mpr ⟨lw_p57, List.forall_mem_cons.mpr ⟨lw_p58, List.forall_mem_cons.mpr ⟨lw_p59, List.forall_mem_cons.mpr ⟨lw_p60, List.forall_mem_cons.mpr ⟨lw_p61, List.forall_mem_cons.mpr ⟨lw_p62, List.forall_mem_cons.mpr ⟨lw_p63, fun _ h => absurd h List.not_mem_nil⟩⟩⟩⟩⟩⟩⟩⟩⟩⟩⟩⟩⟩⟩⟩⟩
theorem lw_p64 : lw_okq (⟨"HomesickStampsModel", "readsTimes", "()V"⟩, 53) := ⟨⟨by decide +kernel, by decide +kernel⟩, List.mem_of_getElem? (i := 1241) (by decide +kernel), List.mem_of_getElem? (i := 1517) (by decide +kernel), List.mem_of_getElem? (i := 1518) (by decide +kernel)⟩
theorem lw_p65 : lw_okq (⟨"HomesickStampsModel", "repeats", "(III)Z"⟩, 53) := ⟨⟨by decide +kernel, by decide +kernel⟩, List.mem_of_getElem? (i := 1241) (by decide +kernel), List.mem_of_getElem? (i := 1521) (by decide +kernel), List.mem_of_getElem? (i := 1522) (by decide +kernel)⟩
theorem lw_p66 : lw_okq (⟨"HomesickStampsModel", "readsLine", "()Z"⟩, 53) := ⟨⟨by decide +kernel, by decide +kernel⟩, List.mem_of_getElem? (i := 1241) (by decide +kernel), List.mem_of_getElem? (i := 1532) (by decide +kernel), List.mem_of_getElem? (i := 1533) (by decide +kernel)⟩
theorem lw_p67 : lw_okq (⟨"HomesickStampsModel", "readsWall", "()Z"⟩, 53) := ⟨⟨by decide +kernel, by decide +kernel⟩, List.mem_of_getElem? (i := 1241) (by decide +kernel), List.mem_of_getElem? (i := 1536) (by decide +kernel), List.mem_of_getElem? (i := 1537) (by decide +kernel)⟩
theorem lw_p68 : lw_okq (⟨"HomesickStampsModel", "readsSpot", "()Z"⟩, 53) := ⟨⟨by decide +kernel, by decide +kernel⟩, List.mem_of_getElem? (i := 1241) (by decide +kernel), List.mem_of_getElem? (i := 1540) (by decide +kernel), List.mem_of_getElem? (i := 1541) (by decide +kernel)⟩
theorem lw_p69 : lw_okq (⟨"HomesickStampsModel", "readsWithin", "(II)Z"⟩, 53) := ⟨⟨by decide +kernel, by decide +kernel⟩, List.mem_of_getElem? (i := 1241) (by decide +kernel), List.mem_of_getElem? (i := 1544) (by decide +kernel), List.mem_of_getElem? (i := 1545) (by decide +kernel)⟩
theorem lw_p70 : lw_okq (⟨"HomesickStampsModel", "readsLetter", "(I)Z"⟩, 53) := ⟨⟨by decide +kernel, by decide +kernel⟩, List.mem_of_getElem? (i := 1241) (by decide +kernel), List.mem_of_getElem? (i := 1548) (by decide +kernel), List.mem_of_getElem? (i := 1549) (by decide +kernel)⟩
theorem lw_p71 : lw_okq (⟨"HomesickStampsModel", "isTold", "(I)Z"⟩, 53) := ⟨⟨by decide +kernel, by decide +kernel⟩, List.mem_of_getElem? (i := 1241) (by decide +kernel), List.mem_of_getElem? (i := 1552) (by decide +kernel), List.mem_of_getElem? (i := 1553) (by decide +kernel)⟩
theorem lw_p72 : lw_okq (⟨"HomesickStampsModel", "daysGo", "(I)V"⟩, 53) := ⟨⟨by decide +kernel, by decide +kernel⟩, List.mem_of_getElem? (i := 1241) (by decide +kernel), List.mem_of_getElem? (i := 1560) (by decide +kernel), List.mem_of_getElem? (i := 1561) (by decide +kernel)⟩
theorem lw_p73 : lw_okq (⟨"HomesickStampsModel", "dayGoes", "()V"⟩, 53) := ⟨⟨by decide +kernel, by decide +kernel⟩, List.mem_of_getElem? (i := 1241) (by decide +kernel), List.mem_of_getElem? (i := 1564) (by decide +kernel), List.mem_of_getElem? (i := 1565) (by decide +kernel)⟩
theorem lw_p74 : lw_okq (⟨"HomesickStampsModel", "letterGoes", "(I)V"⟩, 53) := ⟨⟨by decide +kernel, by decide +kernel⟩, List.mem_of_getElem? (i := 1241) (by decide +kernel), List.mem_of_getElem? (i := 1568) (by decide +kernel), List.mem_of_getElem? (i := 1569) (by decide +kernel)⟩
theorem lw_p75 : lw_okq (⟨"HomesickStampsModel", "sticks", "(II)Z"⟩, 53) := ⟨⟨by decide +kernel, by decide +kernel⟩, List.mem_of_getElem? (i := 1241) (by decide +kernel), List.mem_of_getElem? (i := 1573) (by decide +kernel), List.mem_of_getElem? (i := 1574) (by decide +kernel)⟩
theorem lw_p76 : lw_okq (⟨"HomesickStampsModel", "isStamp", "(I)Z"⟩, 53) := ⟨⟨by decide +kernel, by decide +kernel⟩, List.mem_of_getElem? (i := 1241) (by decide +kernel), List.mem_of_getElem? (i := 1577) (by decide +kernel), List.mem_of_getElem? (i := 1578) (by decide +kernel)⟩
theorem lw_p77 : lw_okq (⟨"HomesickStampsModel", "asksStamp", "(III)V"⟩, 53) := ⟨⟨by decide +kernel, by decide +kernel⟩, List.mem_of_getElem? (i := 1241) (by decide +kernel), List.mem_of_getElem? (i := 1581) (by decide +kernel), List.mem_of_getElem? (i := 1582) (by decide +kernel)⟩
theorem lw_p78 : lw_okq (⟨"HomesickStampsModel", "feels", "(III)V"⟩, 53) := ⟨⟨by decide +kernel, by decide +kernel⟩, List.mem_of_getElem? (i := 1241) (by decide +kernel), List.mem_of_getElem? (i := 1585) (by decide +kernel), List.mem_of_getElem? (i := 1586) (by decide +kernel)⟩
theorem lw_p79 : lw_okq (⟨"HomesickStampsModel", "stampsOn", "(I)I"⟩, 53) := ⟨⟨by decide +kernel, by decide +kernel⟩, List.mem_of_getElem? (i := 1241) (by decide +kernel), List.mem_of_getElem? (i := 1592) (by decide +kernel), List.mem_of_getElem? (i := 1593) (by decide +kernel)⟩
def lw_privs_5 : List (MethodName × Nat) := [(⟨"HomesickStampsModel", "readsTimes", "()V"⟩, 53), (⟨"HomesickStampsModel", "repeats", "(III)Z"⟩, 53), (⟨"HomesickStampsModel", "readsLine", "()Z"⟩, 53), (⟨"HomesickStampsModel", "readsWall", "()Z"⟩, 53), (⟨"HomesickStampsModel", "readsSpot", "()Z"⟩, 53), (⟨"HomesickStampsModel", "readsWithin", "(II)Z"⟩, 53), (⟨"HomesickStampsModel", "readsLetter", "(I)Z"⟩, 53), (⟨"HomesickStampsModel", "isTold", "(I)Z"⟩, 53), (⟨"HomesickStampsModel", "daysGo", "(I)V"⟩, 53), (⟨"HomesickStampsModel", "dayGoes", "()V"⟩, 53), (⟨"HomesickStampsModel", "letterGoes", "(I)V"⟩, 53), (⟨"HomesickStampsModel", "sticks", "(II)Z"⟩, 53), (⟨"HomesickStampsModel", "isStamp", "(I)Z"⟩, 53), (⟨"HomesickStampsModel", "asksStamp", "(III)V"⟩, 53), (⟨"HomesickStampsModel", "feels", "(III)V"⟩, 53), (⟨"HomesickStampsModel", "stampsOn", "(I)I"⟩, 53)]
theorem lw_r5 : ∀ q ∈ lw_privs_5, lw_okq q := List.forall_mem_cons.mpr ⟨lw_p64, List.forall_mem_cons.mpr ⟨lw_p65, List.forall_mem_cons.mpr ⟨lw_p66, List.forall_mem_cons.mpr ⟨lw_p67, List.forall_mem_cons.mpr ⟨lw_p68, List.forall_mem_cons.mpr ⟨lw_p69, List.forall_mem_cons.mpr ⟨lw_p70, List.forall_mem_cons.mpr ⟨lw_p71, List.forall_mem_cons.mpr ⟨lw_p72, List.forall_mem_cons.mpr ⟨lw_p73, List.forall_mem_cons.mpr ⟨lw_p74, List.forall_mem_cons.mpr ⟨lw_p75, List.forall_mem_cons.mpr ⟨lw_p76, List.forall_mem_cons.mpr ⟨lw_p77, List.forall_mem_cons.mpr ⟨lw_p78, List.forall_mem_cons.mpr ⟨lw_p79, fun _ h => absurd h List.not_mem_nil⟩⟩⟩⟩⟩⟩⟩⟩⟩⟩⟩⟩⟩⟩⟩⟩
theorem lw_p80 : lw_okq (⟨"HomesickStampsModel", "holdsAny", "(I)Z"⟩, 53) := ⟨⟨by decide +kernel, by decide +kernel⟩, List.mem_of_getElem? (i := 1241) (by decide +kernel), List.mem_of_getElem? (i := 1596) (by decide +kernel), List.mem_of_getElem? (i := 1597) (by decide +kernel)⟩
theorem lw_p81 : lw_okq (⟨"HomesickStampsModel", "reckonsTo", "(II)I"⟩, 53) := ⟨⟨by decide +kernel, by decide +kernel⟩, List.mem_of_getElem? (i := 1241) (by decide +kernel), List.mem_of_getElem? (i := 1600) (by decide +kernel), List.mem_of_getElem? (i := 1601) (by decide +kernel)⟩
theorem lw_p82 : lw_okq (⟨"HomesickStampsModel", "byLaw", "(II)I"⟩, 53) := ⟨⟨by decide +kernel, by decide +kernel⟩, List.mem_of_getElem? (i := 1241) (by decide +kernel), List.mem_of_getElem? (i := 1607) (by decide +kernel), List.mem_of_getElem? (i := 1608) (by decide +kernel)⟩
theorem lw_p83 : lw_okq (⟨"HomesickStampsModel", "canTry", "(I)Z"⟩, 53) := ⟨⟨by decide +kernel, by decide +kernel⟩, List.mem_of_getElem? (i := 1241) (by decide +kernel), List.mem_of_getElem? (i := 1633) (by decide +kernel), List.mem_of_getElem? (i := 1634) (by decide +kernel)⟩
theorem lw_p84 : lw_okq (⟨"HomesickStampsModel", "walledSet", "()I"⟩, 53) := ⟨⟨by decide +kernel, by decide +kernel⟩, List.mem_of_getElem? (i := 1241) (by decide +kernel), List.mem_of_getElem? (i := 1637) (by decide +kernel), List.mem_of_getElem? (i := 1638) (by decide +kernel)⟩
theorem lw_p85 : lw_okq (⟨"HomesickStampsModel", "lowestOn", "(I)I"⟩, 53) := ⟨⟨by decide +kernel, by decide +kernel⟩, List.mem_of_getElem? (i := 1241) (by decide +kernel), List.mem_of_getElem? (i := 1645) (by decide +kernel), List.mem_of_getElem? (i := 1646) (by decide +kernel)⟩
theorem lw_p86 : lw_okq (⟨"HomesickStampsModel", "plainPull", "(IZ)I"⟩, 53) := ⟨⟨by decide +kernel, by decide +kernel⟩, List.mem_of_getElem? (i := 1241) (by decide +kernel), List.mem_of_getElem? (i := 1649) (by decide +kernel), List.mem_of_getElem? (i := 1650) (by decide +kernel)⟩
theorem lw_p87 : lw_okq (⟨"HomesickStampsModel", "letterOf", "(I)I"⟩, 53) := ⟨⟨by decide +kernel, by decide +kernel⟩, List.mem_of_getElem? (i := 1241) (by decide +kernel), List.mem_of_getElem? (i := 1657) (by decide +kernel), List.mem_of_getElem? (i := 1658) (by decide +kernel)⟩
theorem lw_p88 : lw_okq (⟨"HomesickStampsModel", "takesStamps", "(I)Z"⟩, 53) := ⟨⟨by decide +kernel, by decide +kernel⟩, List.mem_of_getElem? (i := 1241) (by decide +kernel), List.mem_of_getElem? (i := 1692) (by decide +kernel), List.mem_of_getElem? (i := 1693) (by decide +kernel)⟩
theorem lw_p89 : lw_okq (⟨"HomesickStampsModel", "octet", "(I)I"⟩, 53) := ⟨⟨by decide +kernel, by decide +kernel⟩, List.mem_of_getElem? (i := 1241) (by decide +kernel), List.mem_of_getElem? (i := 1696) (by decide +kernel), List.mem_of_getElem? (i := 1697) (by decide +kernel)⟩
theorem lw_p90 : lw_okq (⟨"HomesickStampsModel", "brings", "(IIIII)Z"⟩, 53) := ⟨⟨by decide +kernel, by decide +kernel⟩, List.mem_of_getElem? (i := 1241) (by decide +kernel), List.mem_of_getElem? (i := 1706) (by decide +kernel), List.mem_of_getElem? (i := 1707) (by decide +kernel)⟩
theorem lw_p91 : lw_okq (⟨"HomesickStampsModel", "stepBy", "(III)I"⟩, 53) := ⟨⟨by decide +kernel, by decide +kernel⟩, List.mem_of_getElem? (i := 1241) (by decide +kernel), List.mem_of_getElem? (i := 1710) (by decide +kernel), List.mem_of_getElem? (i := 1711) (by decide +kernel)⟩
theorem lw_p92 : lw_okq (⟨"HomesickStampsModel", "pullOf", "(IIIZ)I"⟩, 53) := ⟨⟨by decide +kernel, by decide +kernel⟩, List.mem_of_getElem? (i := 1241) (by decide +kernel), List.mem_of_getElem? (i := 1714) (by decide +kernel), List.mem_of_getElem? (i := 1715) (by decide +kernel)⟩
theorem lw_p93 : lw_okq (⟨"HomesickStampsModel", "liesSo", "(II)Z"⟩, 53) := ⟨⟨by decide +kernel, by decide +kernel⟩, List.mem_of_getElem? (i := 1241) (by decide +kernel), List.mem_of_getElem? (i := 1733) (by decide +kernel), List.mem_of_getElem? (i := 1734) (by decide +kernel)⟩
theorem lw_p94 : lw_okq (⟨"HomesickStampsModel", "sumOf", "(II)I"⟩, 53) := ⟨⟨by decide +kernel, by decide +kernel⟩, List.mem_of_getElem? (i := 1241) (by decide +kernel), List.mem_of_getElem? (i := 1741) (by decide +kernel), List.mem_of_getElem? (i := 1742) (by decide +kernel)⟩
theorem lw_p95 : lw_okq (⟨"HomesickStampsModel", "laysFewest", "(I)Z"⟩, 53) := ⟨⟨by decide +kernel, by decide +kernel⟩, List.mem_of_getElem? (i := 1241) (by decide +kernel), List.mem_of_getElem? (i := 1754) (by decide +kernel), List.mem_of_getElem? (i := 1755) (by decide +kernel)⟩
def lw_privs_6 : List (MethodName × Nat) := [(⟨"HomesickStampsModel", "holdsAny", "(I)Z"⟩, 53), (⟨"HomesickStampsModel", "reckonsTo", "(II)I"⟩, 53), (⟨"HomesickStampsModel", "byLaw", "(II)I"⟩, 53), (⟨"HomesickStampsModel", "canTry", "(I)Z"⟩, 53), (⟨"HomesickStampsModel", "walledSet", "()I"⟩, 53), (⟨"HomesickStampsModel", "lowestOn", "(I)I"⟩, 53), (⟨"HomesickStampsModel", "plainPull", "(IZ)I"⟩, 53), (⟨"HomesickStampsModel", "letterOf", "(I)I"⟩, 53), (⟨"HomesickStampsModel", "takesStamps", "(I)Z"⟩, 53), (⟨"HomesickStampsModel", "octet", "(I)I"⟩, 53), (⟨"HomesickStampsModel", "brings", "(IIIII)Z"⟩, 53), (⟨"HomesickStampsModel", "stepBy", "(III)I"⟩, 53), (⟨"HomesickStampsModel", "pullOf", "(IIIZ)I"⟩, 53), (⟨"HomesickStampsModel", "liesSo", "(II)Z"⟩, 53), (⟨"HomesickStampsModel", "sumOf", "(II)I"⟩, 53), (⟨"HomesickStampsModel", "laysFewest", "(I)Z"⟩, 53)]
theorem lw_r6 : ∀ q ∈ lw_privs_6, lw_okq q := List.forall_mem_cons.mpr ⟨lw_p80, List.forall_mem_cons.mpr ⟨lw_p81, List.forall_mem_cons.mpr ⟨lw_p82, List.forall_mem_cons.mpr ⟨lw_p83, List.forall_mem_cons.mpr ⟨lw_p84, List.forall_mem_cons.mpr ⟨lw_p85, List.forall_mem_cons.mpr ⟨lw_p86, List.forall_mem_cons.mpr ⟨lw_p87, List.forall_mem_cons.mpr ⟨lw_p88, List.forall_mem_cons.mpr ⟨lw_p89, List.forall_mem_cons.mpr ⟨lw_p90, List.forall_mem_cons.mpr ⟨lw_p91, List.forall_mem_cons.mpr ⟨lw_p92, List.forall_mem_cons.mpr ⟨lw_p93, List.forall_mem_cons.mpr ⟨lw_p94, List.forall_mem_cons.mpr ⟨lw_p95, fun _ h => absurd h List.not_mem_nil⟩⟩⟩⟩⟩⟩⟩⟩⟩⟩⟩⟩⟩⟩⟩⟩
theorem lw_p96 : lw_okq (⟨"HomesickStampsModel", "areRows", "(I)Z"⟩, 53) := ⟨⟨by decide +kernel, by decide +kernel⟩, List.mem_of_getElem? (i := 1241) (by decide +kernel), List.mem_of_getElem? (i := 1766) (by decide +kernel), List.mem_of_getElem? (i := 1767) (by decide +kernel)⟩
theorem lw_p97 : lw_okq (⟨"HomesickStampsModel", "changesRing", "(II)I"⟩, 53) := ⟨⟨by decide +kernel, by decide +kernel⟩, List.mem_of_getElem? (i := 1241) (by decide +kernel), List.mem_of_getElem? (i := 1770) (by decide +kernel), List.mem_of_getElem? (i := 1771) (by decide +kernel)⟩
theorem lw_p98 : lw_okq (⟨"HomesickStampsModel", "likesOf", "(III)I"⟩, 53) := ⟨⟨by decide +kernel, by decide +kernel⟩, List.mem_of_getElem? (i := 1241) (by decide +kernel), List.mem_of_getElem? (i := 1774) (by decide +kernel), List.mem_of_getElem? (i := 1775) (by decide +kernel)⟩
theorem lw_p99 : lw_okq (⟨"HomesickStampsModel", "toldMints", "()I"⟩, 53) := ⟨⟨by decide +kernel, by decide +kernel⟩, List.mem_of_getElem? (i := 1241) (by decide +kernel), List.mem_of_getElem? (i := 1799) (by decide +kernel), List.mem_of_getElem? (i := 1800) (by decide +kernel)⟩
theorem lw_p100 : lw_okq (⟨"HomesickStampsModel", "toldLetters", "()I"⟩, 53) := ⟨⟨by decide +kernel, by decide +kernel⟩, List.mem_of_getElem? (i := 1241) (by decide +kernel), List.mem_of_getElem? (i := 1803) (by decide +kernel), List.mem_of_getElem? (i := 1804) (by decide +kernel)⟩
def lw_privs_7 : List (MethodName × Nat) := [(⟨"HomesickStampsModel", "areRows", "(I)Z"⟩, 53), (⟨"HomesickStampsModel", "changesRing", "(II)I"⟩, 53), (⟨"HomesickStampsModel", "likesOf", "(III)I"⟩, 53), (⟨"HomesickStampsModel", "toldMints", "()I"⟩, 53), (⟨"HomesickStampsModel", "toldLetters", "()I"⟩, 53)]
theorem lw_r7 : ∀ q ∈ lw_privs_7, lw_okq q := List.forall_mem_cons.mpr ⟨lw_p96, List.forall_mem_cons.mpr ⟨lw_p97, List.forall_mem_cons.mpr ⟨lw_p98, List.forall_mem_cons.mpr ⟨lw_p99, List.forall_mem_cons.mpr ⟨lw_p100, fun _ h => absurd h List.not_mem_nil⟩⟩⟩⟩⟩
def lw_privs : List (MethodName × Nat) := lw_privs_1 ++ (lw_privs_2 ++ (lw_privs_3 ++ (lw_privs_4 ++ (lw_privs_5 ++ (lw_privs_6 ++ (lw_privs_7))))))
def lw_tbl : List Cond := k2_sels lw_privs ++ tables_1
theorem lw_privs_ok : ∀ q ∈ lw_privs, lw_okq q := by
  show ∀ q ∈ lw_privs_1 ++ (lw_privs_2 ++ (lw_privs_3 ++ (lw_privs_4 ++ (lw_privs_5 ++ (lw_privs_6 ++ (lw_privs_7)))))), lw_okq q
  exact List.forall_mem_append.mpr ⟨lw_r1, List.forall_mem_append.mpr ⟨lw_r2, List.forall_mem_append.mpr ⟨lw_r3, List.forall_mem_append.mpr ⟨lw_r4, List.forall_mem_append.mpr ⟨lw_r5, List.forall_mem_append.mpr ⟨lw_r6, lw_r7⟩⟩⟩⟩⟩⟩

def RX0 : String := "HomesickStamps$Clerk"
def TX0 : u_T := fun k => match k with
  | 0 => ("HomesickStamps$Clerk", "republic", "LHomesickStamps$Republic;", true)
  | 1 => ("HomesickStamps$Clerk", "facts", "[I", true)
  | 2 => ("HomesickStamps$Clerk", "moreUsed", "[I", true)
  | 3 => ("HomesickStamps$Clerk", "acrossSum", "I", false)
  | 4 => ("HomesickStamps$Clerk", "alongSum", "I", false)
  | _ => ("HomesickStamps$Clerk", "fallen", "I", false)
def tyX0 : Nat → FieldType := fun k => match k with
  | 0 => .object "HomesickStamps$Republic"
  | 1 => .array .int
  | 2 => .array .int
  | 3 => .int
  | 4 => .int
  | _ => .int
abbrev wsX00 : List Cond := u_ws RX0 TX0 6
theorem nmX0 : ∀ a, a < 6 → ∀ b, b < 6 → a ≠ b → (TX0 a).2.1 ≠ (TX0 b).2.1 := by decide +kernel
theorem tyX0_ok : ∀ k, k < 6 → parseFieldDescriptor (TX0 k).2.2.1 = some (tyX0 k) := by decide +kernel
abbrev cX0_init : ByteArray := prog_2_method_1_code
def yX0_init : MethodName := ⟨RX0, "<init>", "(LHomesickStamps$Republic;)V"⟩
abbrev cX0_fallen : ByteArray := prog_2_method_2_code
def yX0_fallen : MethodName := ⟨RX0, "fallen", "()I"⟩
abbrev cX0_passDays : ByteArray := prog_2_method_3_code
def yX0_passDays : MethodName := ⟨RX0, "passDays", "(LHomesickStamps$Law;LHomesickStamps$Letters;I)I"⟩
abbrev cX0_passLetter : ByteArray := prog_2_method_4_code
def yX0_passLetter : MethodName := ⟨RX0, "passLetter", "(LHomesickStamps$Law;LHomesickStamps$Letters;I)I"⟩
abbrev cX0_learn : ByteArray := prog_2_method_5_code
def yX0_learn : MethodName := ⟨RX0, "learn", "(LHomesickStamps$Letters;II)V"⟩
abbrev cX0_pull : ByteArray := prog_2_method_6_code
def yX0_pull : MethodName := ⟨RX0, "pull", "(LHomesickStamps$Law;LHomesickStamps$Letters;II)V"⟩
abbrev cX0_step : ByteArray := prog_2_method_7_code
def yX0_step : MethodName := ⟨RX0, "step", "(LHomesickStamps$Letters;I)I"⟩
def RX1 : String := "HomesickStamps$Crew"
def TX1 : u_T := fun k => match k with
  | 0 => ("HomesickStamps$Crew", "republic", "LHomesickStamps$Republic;", true)
  | 1 => ("HomesickStamps$Crew", "members", "[I", true)
  | 2 => ("HomesickStamps$Crew", "size", "I", false)
  | 3 => ("HomesickStamps$Crew", "acrossSum", "I", false)
  | _ => ("HomesickStamps$Crew", "alongSum", "I", false)
def tyX1 : Nat → FieldType := fun k => match k with
  | 0 => .object "HomesickStamps$Republic"
  | 1 => .array .int
  | 2 => .int
  | 3 => .int
  | _ => .int
abbrev wsX10 : List Cond := u_ws RX1 TX1 5
theorem nmX1 : ∀ a, a < 5 → ∀ b, b < 5 → a ≠ b → (TX1 a).2.1 ≠ (TX1 b).2.1 := by decide +kernel
theorem tyX1_ok : ∀ k, k < 5 → parseFieldDescriptor (TX1 k).2.2.1 = some (tyX1 k) := by decide +kernel
abbrev cX1_init : ByteArray := prog_3_method_1_code
def yX1_init : MethodName := ⟨RX1, "<init>", "(LHomesickStamps$Republic;)V"⟩
abbrev cX1_gather : ByteArray := prog_3_method_2_code
def yX1_gather : MethodName := ⟨RX1, "gather", "(LHomesickStamps$Tape;I)Z"⟩
abbrev cX1_pullTogether : ByteArray := prog_3_method_3_code
def yX1_pullTogether : MethodName := ⟨RX1, "pullTogether", "(II)V"⟩
abbrev cX1_wayFrom : ByteArray := prog_3_method_4_code
def yX1_wayFrom : MethodName := ⟨RX1, "wayFrom", "(II)I"⟩
abbrev cX1_placeBehind : ByteArray := prog_3_method_5_code
def yX1_placeBehind : MethodName := ⟨RX1, "placeBehind", "(III)I"⟩
abbrev cX1_fewer : ByteArray := prog_3_method_6_code
def yX1_fewer : MethodName := ⟨RX1, "fewer", "(II)I"⟩
abbrev cX1_fewestToBring : ByteArray := prog_3_method_7_code
def yX1_fewestToBring : MethodName := ⟨RX1, "fewestToBring", "(III)I"⟩
abbrev cX1_hangs : ByteArray := prog_3_method_8_code
def yX1_hangs : MethodName := ⟨RX1, "hangs", "(II)Z"⟩
abbrev cX1_waysToHang : ByteArray := prog_3_method_9_code
def yX1_waysToHang : MethodName := ⟨RX1, "waysToHang", "(I)I"⟩
abbrev cX1_fewestToHang : ByteArray := prog_3_method_10_code
def yX1_fewestToHang : MethodName := ⟨RX1, "fewestToHang", "(I)I"⟩
abbrev cX1_fewestFalse : ByteArray := prog_3_method_11_code
def yX1_fewestFalse : MethodName := ⟨RX1, "fewestFalse", "(II)I"⟩
def RX2 : String := "HomesickStamps$Law"
def TX2 : u_T := fun k => match k with
  | 0 => ("HomesickStamps$Law", "kind", "[I", true)
  | 1 => ("HomesickStamps$Law", "worthAt", "[I", true)
  | 2 => ("HomesickStamps$Law", "testAt", "[I", true)
  | 3 => ("HomesickStamps$Law", "step", "[I", true)
  | 4 => ("HomesickStamps$Law", "beside", "[I", true)
  | 5 => ("HomesickStamps$Law", "stack", "[I", true)
  | 6 => ("HomesickStamps$Law", "rules", "I", false)
  | 7 => ("HomesickStamps$Law", "steps", "I", false)
  | 8 => ("HomesickStamps$Law", "waiting", "I", false)
  | _ => ("HomesickStamps$Law", "refused", "Z", false)
def tyX2 : Nat → FieldType := fun k => match k with
  | 0 => .array .int
  | 1 => .array .int
  | 2 => .array .int
  | 3 => .array .int
  | 4 => .array .int
  | 5 => .array .int
  | 6 => .int
  | 7 => .int
  | 8 => .int
  | _ => .boolean
abbrev wsX20 : List Cond := u_ws RX2 TX2 10
theorem nmX2 : ∀ a, a < 10 → ∀ b, b < 10 → a ≠ b → (TX2 a).2.1 ≠ (TX2 b).2.1 := by decide +kernel
theorem tyX2_ok : ∀ k, k < 10 → parseFieldDescriptor (TX2 k).2.2.1 = some (tyX2 k) := by decide +kernel
abbrev cX2_init : ByteArray := prog_4_method_1_code
def yX2_init : MethodName := ⟨RX2, "<init>", "()V"⟩
abbrev cX2_size : ByteArray := prog_4_method_2_code
def yX2_size : MethodName := ⟨RX2, "size", "()I"⟩
abbrev cX2_clear : ByteArray := prog_4_method_3_code
def yX2_clear : MethodName := ⟨RX2, "clear", "()V"⟩
abbrev cX2_beginRule : ByteArray := prog_4_method_4_code
def yX2_beginRule : MethodName := ⟨RX2, "beginRule", "(I)V"⟩
abbrev cX2_beginTest : ByteArray := prog_4_method_5_code
def yX2_beginTest : MethodName := ⟨RX2, "beginTest", "()V"⟩
abbrev cX2_write : ByteArray := prog_4_method_6_code
def yX2_write : MethodName := ⟨RX2, "write", "(II)I"⟩
abbrev cX2_landHere : ByteArray := prog_4_method_7_code
def yX2_landHere : MethodName := ⟨RX2, "landHere", "(I)V"⟩
abbrev cX2_letsFall : ByteArray := prog_4_method_8_code
def yX2_letsFall : MethodName := ⟨RX2, "letsFall", "([I)Z"⟩
abbrev cX2_worth : ByteArray := prog_4_method_9_code
def yX2_worth : MethodName := ⟨RX2, "worth", "(I[I)I"⟩
abbrev cX2_reckon : ByteArray := prog_4_method_10_code
def yX2_reckon : MethodName := ⟨RX2, "reckon", "(I[I)I"⟩
abbrev cX2_doStep : ByteArray := prog_4_method_11_code
def yX2_doStep : MethodName := ⟨RX2, "doStep", "(I[I)I"⟩
abbrev cX2_joined : ByteArray := prog_4_method_12_code
def yX2_joined : MethodName := ⟨RX2, "joined", "(III)I"⟩
abbrev cX2_push : ByteArray := prog_4_method_13_code
def yX2_push : MethodName := ⟨RX2, "push", "(I)V"⟩
abbrev cX2_pop : ByteArray := prog_4_method_14_code
def yX2_pop : MethodName := ⟨RX2, "pop", "()I"⟩
def RX3 : String := "HomesickStamps$LawReader"
def TX3 : u_T := fun k => match k with
  | 0 => ("HomesickStamps$Reader", "text", "[I", true)
  | 1 => ("HomesickStamps$Reader", "end", "I", false)
  | 2 => ("HomesickStamps$Reader", "at", "I", false)
  | 3 => ("HomesickStamps$Reader", "ahead", "I", false)
  | 4 => ("HomesickStamps$Reader", "fault", "I", false)
  | _ => ("HomesickStamps$LawReader", "into", "LHomesickStamps$Law;", false)
def tyX3 : Nat → FieldType := fun k => match k with
  | 0 => .array .int
  | 1 => .int
  | 2 => .int
  | 3 => .int
  | 4 => .int
  | _ => .object "HomesickStamps$Law"
abbrev wsX30 : List Cond := u_ws RX3 TX3 6
theorem nmX3 : ∀ a, a < 6 → ∀ b, b < 6 → a ≠ b → (TX3 a).2.1 ≠ (TX3 b).2.1 := by decide +kernel
theorem tyX3_ok : ∀ k, k < 6 → parseFieldDescriptor (TX3 k).2.2.1 = some (tyX3 k) := by decide +kernel
abbrev cX3_init : ByteArray := prog_5_method_1_code
def yX3_init : MethodName := ⟨RX3, "<init>", "(LHomesickStamps$Tape;LHomesickStamps$Law;)V"⟩
abbrev cX3_read : ByteArray := prog_5_method_2_code
def yX3_read : MethodName := ⟨RX3, "read", "(ILHomesickStamps$Law;)I"⟩
abbrev cX3_readRule : ByteArray := prog_5_method_3_code
def yX3_readRule : MethodName := ⟨RX3, "readRule", "()Z"⟩
abbrev cX3_readAny : ByteArray := prog_5_method_4_code
def yX3_readAny : MethodName := ⟨RX3, "readAny", "(I)Z"⟩
abbrev cX3_readAll : ByteArray := prog_5_method_5_code
def yX3_readAll : MethodName := ⟨RX3, "readAll", "(I)Z"⟩
abbrev cX3_readTest : ByteArray := prog_5_method_6_code
def yX3_readTest : MethodName := ⟨RX3, "readTest", "(I)Z"⟩
abbrev cX3_readComparison : ByteArray := prog_5_method_7_code
def yX3_readComparison : MethodName := ⟨RX3, "readComparison", "(I)Z"⟩
abbrev cX3_readSum : ByteArray := prog_5_method_8_code
def yX3_readSum : MethodName := ⟨RX3, "readSum", "(I)Z"⟩
abbrev cX3_readTerm : ByteArray := prog_5_method_9_code
def yX3_readTerm : MethodName := ⟨RX3, "readTerm", "(I)Z"⟩
abbrev cX3_readFactor : ByteArray := prog_5_method_10_code
def yX3_readFactor : MethodName := ⟨RX3, "readFactor", "(I)Z"⟩
def RX4 : String := "HomesickStamps$Letters"
def TX4 : u_T := fun k => match k with
  | 0 => ("HomesickStamps$Letters", "place", "[I", true)
  | 1 => ("HomesickStamps$Letters", "paste", "[I", true)
  | 2 => ("HomesickStamps$Letters", "letter", "[I", true)
  | 3 => ("HomesickStamps$Letters", "used", "[I", true)
  | 4 => ("HomesickStamps$Letters", "told", "I", false)
  | 5 => ("HomesickStamps$Letters", "walled", "I", false)
  | 6 => ("HomesickStamps$Letters", "day", "I", false)
  | _ => ("HomesickStamps$Letters", "drawState", "I", false)
def tyX4 : Nat → FieldType := fun k => match k with
  | 0 => .array .int
  | 1 => .array .int
  | 2 => .array .int
  | 3 => .array .int
  | 4 => .int
  | 5 => .int
  | 6 => .int
  | _ => .int
abbrev wsX40 : List Cond := u_ws RX4 TX4 8
theorem nmX4 : ∀ a, a < 8 → ∀ b, b < 8 → a ≠ b → (TX4 a).2.1 ≠ (TX4 b).2.1 := by decide +kernel
theorem tyX4_ok : ∀ k, k < 8 → parseFieldDescriptor (TX4 k).2.2.1 = some (tyX4 k) := by decide +kernel
abbrev cX4_init : ByteArray := prog_6_method_1_code
def yX4_init : MethodName := ⟨RX4, "<init>", "()V"⟩
abbrev cX4_copyFrom : ByteArray := prog_6_method_2_code
def yX4_copyFrom : MethodName := ⟨RX4, "copyFrom", "(LHomesickStamps$Letters;)V"⟩
abbrev cX4_isTold : ByteArray := prog_6_method_3_code
def yX4_isTold : MethodName := ⟨RX4, "isTold", "(I)Z"⟩
abbrev cX4_toldBits : ByteArray := prog_6_method_4_code
def yX4_toldBits : MethodName := ⟨RX4, "toldBits", "()I"⟩
abbrev cX4_isWalled : ByteArray := prog_6_method_5_code
def yX4_isWalled : MethodName := ⟨RX4, "isWalled", "(I)Z"⟩
abbrev cX4_walledBits : ByteArray := prog_6_method_6_code
def yX4_walledBits : MethodName := ⟨RX4, "walledBits", "()I"⟩
abbrev cX4_placeOf : ByteArray := prog_6_method_7_code
def yX4_placeOf : MethodName := ⟨RX4, "placeOf", "(I)I"⟩
abbrev cX4_pasteOf : ByteArray := prog_6_method_8_code
def yX4_pasteOf : MethodName := ⟨RX4, "pasteOf", "(I)I"⟩
abbrev cX4_lay : ByteArray := prog_6_method_9_code
def yX4_lay : MethodName := ⟨RX4, "lay", "(II)V"⟩
abbrev cX4_go : ByteArray := prog_6_method_10_code
def yX4_go : MethodName := ⟨RX4, "go", "(II)V"⟩
abbrev cX4_wallIn : ByteArray := prog_6_method_11_code
def yX4_wallIn : MethodName := ⟨RX4, "wallIn", "(I)V"⟩
abbrev cX4_putPaste : ByteArray := prog_6_method_12_code
def yX4_putPaste : MethodName := ⟨RX4, "putPaste", "(II)V"⟩
abbrev cX4_letterOf : ByteArray := prog_6_method_13_code
def yX4_letterOf : MethodName := ⟨RX4, "letterOf", "(I)I"⟩
abbrev cX4_isOn : ByteArray := prog_6_method_14_code
def yX4_isOn : MethodName := ⟨RX4, "isOn", "(II)Z"⟩
abbrev cX4_stick : ByteArray := prog_6_method_15_code
def yX4_stick : MethodName := ⟨RX4, "stick", "(II)V"⟩
abbrev cX4_peel : ByteArray := prog_6_method_16_code
def yX4_peel : MethodName := ⟨RX4, "peel", "(I)V"⟩
abbrev cX4_peelFrom : ByteArray := prog_6_method_17_code
def yX4_peelFrom : MethodName := ⟨RX4, "peelFrom", "(I)V"⟩
abbrev cX4_stampsOn : ByteArray := prog_6_method_18_code
def yX4_stampsOn : MethodName := ⟨RX4, "stampsOn", "(I)I"⟩
abbrev cX4_stampsOnAll : ByteArray := prog_6_method_19_code
def yX4_stampsOnAll : MethodName := ⟨RX4, "stampsOnAll", "()I"⟩
abbrev cX4_lowestOn : ByteArray := prog_6_method_20_code
def yX4_lowestOn : MethodName := ⟨RX4, "lowestOn", "(I)I"⟩
abbrev cX4_usedOf : ByteArray := prog_6_method_21_code
def yX4_usedOf : MethodName := ⟨RX4, "usedOf", "(I)I"⟩
abbrev cX4_useMore : ByteArray := prog_6_method_22_code
def yX4_useMore : MethodName := ⟨RX4, "useMore", "(II)V"⟩
abbrev cX4_day : ByteArray := prog_6_method_23_code
def yX4_day : MethodName := ⟨RX4, "day", "()I"⟩
abbrev cX4_endDay : ByteArray := prog_6_method_24_code
def yX4_endDay : MethodName := ⟨RX4, "endDay", "()V"⟩
abbrev cX4_drawState : ByteArray := prog_6_method_25_code
def yX4_drawState : MethodName := ⟨RX4, "drawState", "()I"⟩
abbrev cX4_seedWith : ByteArray := prog_6_method_26_code
def yX4_seedWith : MethodName := ⟨RX4, "seedWith", "(I)V"⟩
abbrev cX4_draw : ByteArray := prog_6_method_27_code
def yX4_draw : MethodName := ⟨RX4, "draw", "()I"⟩
def RX5 : String := "HomesickStamps$PostReader"
def TX5 : u_T := fun k => match k with
  | 0 => ("HomesickStamps$Reader", "text", "[I", true)
  | 1 => ("HomesickStamps$Reader", "end", "I", false)
  | 2 => ("HomesickStamps$Reader", "at", "I", false)
  | 3 => ("HomesickStamps$Reader", "ahead", "I", false)
  | 4 => ("HomesickStamps$Reader", "fault", "I", false)
  | 5 => ("HomesickStamps$PostReader", "sign", "[I", true)
  | 6 => ("HomesickStamps$PostReader", "letter", "[I", true)
  | 7 => ("HomesickStamps$PostReader", "number", "[I", true)
  | 8 => ("HomesickStamps$PostReader", "lines", "I", false)
  | 9 => ("HomesickStamps$PostReader", "told", "I", false)
  | _ => ("HomesickStamps$PostReader", "stamps", "I", false)
def tyX5 : Nat → FieldType := fun k => match k with
  | 0 => .array .int
  | 1 => .int
  | 2 => .int
  | 3 => .int
  | 4 => .int
  | 5 => .array .int
  | 6 => .array .int
  | 7 => .array .int
  | 8 => .int
  | 9 => .int
  | _ => .int
abbrev wsX50 : List Cond := u_ws RX5 TX5 11
theorem nmX5 : ∀ a, a < 11 → ∀ b, b < 11 → a ≠ b → (TX5 a).2.1 ≠ (TX5 b).2.1 := by decide +kernel
theorem tyX5_ok : ∀ k, k < 11 → parseFieldDescriptor (TX5 k).2.2.1 = some (tyX5 k) := by decide +kernel
abbrev cX5_init : ByteArray := prog_7_method_1_code
def yX5_init : MethodName := ⟨RX5, "<init>", "(LHomesickStamps$Tape;)V"⟩
abbrev cX5_read : ByteArray := prog_7_method_2_code
def yX5_read : MethodName := ⟨RX5, "read", "(III)I"⟩
abbrev cX5_readLine : ByteArray := prog_7_method_3_code
def yX5_readLine : MethodName := ⟨RX5, "readLine", "()Z"⟩
abbrev cX5_readOrder : ByteArray := prog_7_method_4_code
def yX5_readOrder : MethodName := ⟨RX5, "readOrder", "(II)Z"⟩
abbrev cX5_readPlace : ByteArray := prog_7_method_5_code
def yX5_readPlace : MethodName := ⟨RX5, "readPlace", "()I"⟩
abbrev cX5_add : ByteArray := prog_7_method_6_code
def yX5_add : MethodName := ⟨RX5, "add", "(III)Z"⟩
abbrev cX5_carryOut : ByteArray := prog_7_method_7_code
def yX5_carryOut : MethodName := ⟨RX5, "carryOut", "(LHomesickStamps$Letters;LHomesickStamps$Republic;)V"⟩
abbrev cX5_carryOutOrder : ByteArray := prog_7_method_8_code
def yX5_carryOutOrder : MethodName := ⟨RX5, "carryOutOrder", "(LHomesickStamps$Letters;III)V"⟩
def RX6 : String := "HomesickStamps$Reader"
def TX6 : u_T := fun k => match k with
  | _ => ("", "", "", false)
def tyX6 : Nat → FieldType := fun k => match k with
  | _ => .int
abbrev wsX60 : List Cond := u_ws RX6 TX6 0
theorem nmX6 : ∀ a, a < 0 → ∀ b, b < 0 → a ≠ b → (TX6 a).2.1 ≠ (TX6 b).2.1 := by decide +kernel
theorem tyX6_ok : ∀ k, k < 0 → parseFieldDescriptor (TX6 k).2.2.1 = some (tyX6 k) := by decide +kernel
abbrev cX6_init : ByteArray := prog_8_method_1_code
def yX6_init : MethodName := ⟨RX6, "<init>", "(LHomesickStamps$Tape;)V"⟩
abbrev cX6_begin : ByteArray := prog_8_method_2_code
def yX6_begin : MethodName := ⟨RX6, "begin", "(I)V"⟩
abbrev cX6_skip : ByteArray := prog_8_method_3_code
def yX6_skip : MethodName := ⟨RX6, "skip", "()V"⟩
abbrev cX6_at : ByteArray := prog_8_method_4_code
def yX6_at : MethodName := ⟨RX6, "at", "()I"⟩
abbrev cX6_ahead : ByteArray := prog_8_method_5_code
def yX6_ahead : MethodName := ⟨RX6, "ahead", "()I"⟩
abbrev cX6_ended : ByteArray := prog_8_method_6_code
def yX6_ended : MethodName := ⟨RX6, "ended", "()Z"⟩
abbrev cX6_fault : ByteArray := prog_8_method_7_code
def yX6_fault : MethodName := ⟨RX6, "fault", "()I"⟩
abbrev cX6_fails : ByteArray := prog_8_method_8_code
def yX6_fails : MethodName := ⟨RX6, "fails", "(II)Z"⟩
abbrev cX6_reads : ByteArray := prog_8_method_9_code
def yX6_reads : MethodName := ⟨RX6, "reads", "(I)Z"⟩
abbrev cX6_readNumber : ByteArray := prog_8_method_10_code
def yX6_readNumber : MethodName := ⟨RX6, "readNumber", "(III)I"⟩
def RX7 : String := "HomesickStamps$Republic"
def TX7 : u_T := fun k => match k with
  | 0 => ("HomesickStamps$Republic", "mintX", "[I", true)
  | 1 => ("HomesickStamps$Republic", "mintY", "[I", true)
  | 2 => ("HomesickStamps$Republic", "wall", "[Z", true)
  | 3 => ("HomesickStamps$Republic", "mintOf", "[I", true)
  | 4 => ("HomesickStamps$Republic", "grainsOf", "[I", true)
  | 5 => ("HomesickStamps$Republic", "toldMints", "I", false)
  | 6 => ("HomesickStamps$Republic", "walls", "I", false)
  | _ => ("HomesickStamps$Republic", "stamps", "I", false)
def tyX7 : Nat → FieldType := fun k => match k with
  | 0 => .array .int
  | 1 => .array .int
  | 2 => .array .boolean
  | 3 => .array .int
  | 4 => .array .int
  | 5 => .int
  | 6 => .int
  | _ => .int
abbrev wsX70 : List Cond := u_ws RX7 TX7 8
theorem nmX7 : ∀ a, a < 8 → ∀ b, b < 8 → a ≠ b → (TX7 a).2.1 ≠ (TX7 b).2.1 := by decide +kernel
theorem tyX7_ok : ∀ k, k < 8 → parseFieldDescriptor (TX7 k).2.2.1 = some (tyX7 k) := by decide +kernel
abbrev cX7_init : ByteArray := prog_9_method_1_code
def yX7_init : MethodName := ⟨RX7, "<init>", "()V"⟩
abbrev cX7_tellMint : ByteArray := prog_9_method_2_code
def yX7_tellMint : MethodName := ⟨RX7, "tellMint", "(III)V"⟩
abbrev cX7_isToldMint : ByteArray := prog_9_method_3_code
def yX7_isToldMint : MethodName := ⟨RX7, "isToldMint", "(I)Z"⟩
abbrev cX7_toldMints : ByteArray := prog_9_method_4_code
def yX7_toldMints : MethodName := ⟨RX7, "toldMints", "()I"⟩
abbrev cX7_walls : ByteArray := prog_9_method_5_code
def yX7_walls : MethodName := ⟨RX7, "walls", "()I"⟩
abbrev cX7_isWall : ByteArray := prog_9_method_6_code
def yX7_isWall : MethodName := ⟨RX7, "isWall", "(I)Z"⟩
abbrev cX7_turnWall : ByteArray := prog_9_method_7_code
def yX7_turnWall : MethodName := ⟨RX7, "turnWall", "(I)V"⟩
abbrev cX7_clearStamps : ByteArray := prog_9_method_8_code
def yX7_clearStamps : MethodName := ⟨RX7, "clearStamps", "()V"⟩
abbrev cX7_print : ByteArray := prog_9_method_9_code
def yX7_print : MethodName := ⟨RX7, "print", "(II)V"⟩
abbrev cX7_stamps : ByteArray := prog_9_method_10_code
def yX7_stamps : MethodName := ⟨RX7, "stamps", "()I"⟩
abbrev cX7_isStamp : ByteArray := prog_9_method_11_code
def yX7_isStamp : MethodName := ⟨RX7, "isStamp", "(I)Z"⟩
abbrev cX7_mintOf : ByteArray := prog_9_method_12_code
def yX7_mintOf : MethodName := ⟨RX7, "mintOf", "(I)I"⟩
abbrev cX7_grainsOf : ByteArray := prog_9_method_13_code
def yX7_grainsOf : MethodName := ⟨RX7, "grainsOf", "(I)I"⟩
abbrev cX7_isPulling : ByteArray := prog_9_method_14_code
def yX7_isPulling : MethodName := ⟨RX7, "isPulling", "(I)Z"⟩
abbrev cX7_across : ByteArray := prog_9_method_15_code
def yX7_across : MethodName := ⟨RX7, "across", "(II)I"⟩
abbrev cX7_along : ByteArray := prog_9_method_16_code
def yX7_along : MethodName := ⟨RX7, "along", "(II)I"⟩
abbrev cX7_stepsHome : ByteArray := prog_9_method_17_code
def yX7_stepsHome : MethodName := ⟨RX7, "stepsHome", "(II)I"⟩
abbrev cX7_wayTo : ByteArray := prog_9_method_18_code
def yX7_wayTo : MethodName := ⟨RX7, "wayTo", "(III)I"⟩
def RX8 : String := "HomesickStamps$Riddles"
def TX8 : u_T := fun k => match k with
  | 0 => ("HomesickStamps$Riddles", "tape", "LHomesickStamps$Tape;", true)
  | 1 => ("HomesickStamps$Riddles", "fewest", "[I", true)
  | 2 => ("HomesickStamps$Riddles", "got", "[I", true)
  | 3 => ("HomesickStamps$Riddles", "bits", "I", false)
  | _ => ("HomesickStamps$Riddles", "grains", "I", false)
def tyX8 : Nat → FieldType := fun k => match k with
  | 0 => .object "HomesickStamps$Tape"
  | 1 => .array .int
  | 2 => .array .int
  | 3 => .int
  | _ => .int
abbrev wsX80 : List Cond := u_ws RX8 TX8 5
theorem nmX8 : ∀ a, a < 5 → ∀ b, b < 5 → a ≠ b → (TX8 a).2.1 ≠ (TX8 b).2.1 := by decide +kernel
theorem tyX8_ok : ∀ k, k < 5 → parseFieldDescriptor (TX8 k).2.2.1 = some (tyX8 k) := by decide +kernel
abbrev cX8_init : ByteArray := prog_10_method_1_code
def yX8_init : MethodName := ⟨RX8, "<init>", "(LHomesickStamps$Tape;)V"⟩
abbrev cX8_bits : ByteArray := prog_10_method_2_code
def yX8_bits : MethodName := ⟨RX8, "bits", "()I"⟩
abbrev cX8_grains : ByteArray := prog_10_method_3_code
def yX8_grains : MethodName := ⟨RX8, "grains", "()I"⟩
abbrev cX8_weightOf : ByteArray := prog_10_method_4_code
def yX8_weightOf : MethodName := ⟨RX8, "weightOf", "(II)I"⟩
abbrev cX8_loadShip : ByteArray := prog_10_method_5_code
def yX8_loadShip : MethodName := ⟨RX8, "loadShip", "(I)V"⟩
abbrev cX8_loadMule : ByteArray := prog_10_method_6_code
def yX8_loadMule : MethodName := ⟨RX8, "loadMule", "(II)Z"⟩
abbrev cX8_isBetterLoad : ByteArray := prog_10_method_7_code
def yX8_isBetterLoad : MethodName := ⟨RX8, "isBetterLoad", "(II)Z"⟩
abbrev cX8_reckonStamps : ByteArray := prog_10_method_8_code
def yX8_reckonStamps : MethodName := ⟨RX8, "reckonStamps", "(I)Z"⟩
abbrev cX8_frankedUpTo : ByteArray := prog_10_method_9_code
def yX8_frankedUpTo : MethodName := ⟨RX8, "frankedUpTo", "(I)I"⟩
abbrev cX8_stampsFor : ByteArray := prog_10_method_10_code
def yX8_stampsFor : MethodName := ⟨RX8, "stampsFor", "(I)I"⟩
abbrev cX8_exchangeStamps : ByteArray := prog_10_method_11_code
def yX8_exchangeStamps : MethodName := ⟨RX8, "exchangeStamps", "(I)Z"⟩
abbrev cX8_rowsNameEachOnce : ByteArray := prog_10_method_12_code
def yX8_rowsNameEachOnce : MethodName := ⟨RX8, "rowsNameEachOnce", "(I)Z"⟩
abbrev cX8_changeInRing : ByteArray := prog_10_method_13_code
def yX8_changeInRing : MethodName := ⟨RX8, "changeInRing", "(II)I"⟩
abbrev cX8_likedMost : ByteArray := prog_10_method_14_code
def yX8_likedMost : MethodName := ⟨RX8, "likedMost", "(III)I"⟩
abbrev cX8_stampGotBy : ByteArray := prog_10_method_15_code
def yX8_stampGotBy : MethodName := ⟨RX8, "stampGotBy", "(I)I"⟩
def RX9 : String := "HomesickStamps$SheetReader"
def TX9 : u_T := fun k => match k with
  | 0 => ("HomesickStamps$Reader", "text", "[I", true)
  | 1 => ("HomesickStamps$Reader", "end", "I", false)
  | 2 => ("HomesickStamps$Reader", "at", "I", false)
  | 3 => ("HomesickStamps$Reader", "ahead", "I", false)
  | 4 => ("HomesickStamps$Reader", "fault", "I", false)
  | 5 => ("HomesickStamps$SheetReader", "mint", "[I", true)
  | 6 => ("HomesickStamps$SheetReader", "grains", "[I", true)
  | _ => ("HomesickStamps$SheetReader", "size", "I", false)
def tyX9 : Nat → FieldType := fun k => match k with
  | 0 => .array .int
  | 1 => .int
  | 2 => .int
  | 3 => .int
  | 4 => .int
  | 5 => .array .int
  | 6 => .array .int
  | _ => .int
abbrev wsX90 : List Cond := u_ws RX9 TX9 8
theorem nmX9 : ∀ a, a < 8 → ∀ b, b < 8 → a ≠ b → (TX9 a).2.1 ≠ (TX9 b).2.1 := by decide +kernel
theorem tyX9_ok : ∀ k, k < 8 → parseFieldDescriptor (TX9 k).2.2.1 = some (tyX9 k) := by decide +kernel
abbrev cX9_init : ByteArray := prog_11_method_1_code
def yX9_init : MethodName := ⟨RX9, "<init>", "(LHomesickStamps$Tape;)V"⟩
abbrev cX9_read : ByteArray := prog_11_method_2_code
def yX9_read : MethodName := ⟨RX9, "read", "(I)I"⟩
abbrev cX9_printInto : ByteArray := prog_11_method_3_code
def yX9_printInto : MethodName := ⟨RX9, "printInto", "(LHomesickStamps$Republic;)V"⟩
abbrev cX9_readStamps : ByteArray := prog_11_method_4_code
def yX9_readStamps : MethodName := ⟨RX9, "readStamps", "(I)Z"⟩
abbrev cX9_readOne : ByteArray := prog_11_method_5_code
def yX9_readOne : MethodName := ⟨RX9, "readOne", "(I)Z"⟩
abbrev cX9_readStamp : ByteArray := prog_11_method_6_code
def yX9_readStamp : MethodName := ⟨RX9, "readStamp", "(II)Z"⟩
abbrev cX9_readRound : ByteArray := prog_11_method_7_code
def yX9_readRound : MethodName := ⟨RX9, "readRound", "(III)Z"⟩
abbrev cX9_add : ByteArray := prog_11_method_8_code
def yX9_add : MethodName := ⟨RX9, "add", "(II)V"⟩
def RX10 : String := "HomesickStamps$Tape"
def TX10 : u_T := fun k => match k with
  | 0 => ("HomesickStamps$Tape", "bytes", "[I", true)
  | _ => ("HomesickStamps$Tape", "size", "I", false)
def tyX10 : Nat → FieldType := fun k => match k with
  | 0 => .array .int
  | _ => .int
abbrev wsX100 : List Cond := u_ws RX10 TX10 2
theorem nmX10 : ∀ a, a < 2 → ∀ b, b < 2 → a ≠ b → (TX10 a).2.1 ≠ (TX10 b).2.1 := by decide +kernel
theorem tyX10_ok : ∀ k, k < 2 → parseFieldDescriptor (TX10 k).2.2.1 = some (tyX10 k) := by decide +kernel
abbrev cX10_init : ByteArray := prog_12_method_1_code
def yX10_init : MethodName := ⟨RX10, "<init>", "()V"⟩
abbrev cX10_size : ByteArray := prog_12_method_2_code
def yX10_size : MethodName := ⟨RX10, "size", "()I"⟩
abbrev cX10_hasRoom : ByteArray := prog_12_method_3_code
def yX10_hasRoom : MethodName := ⟨RX10, "hasRoom", "(I)Z"⟩
abbrev cX10_canGive : ByteArray := prog_12_method_4_code
def yX10_canGive : MethodName := ⟨RX10, "canGive", "(III)Z"⟩
abbrev cX10_takeWord : ByteArray := prog_12_method_5_code
def yX10_takeWord : MethodName := ⟨RX10, "takeWord", "(I)V"⟩
abbrev cX10_takeByte : ByteArray := prog_12_method_6_code
def yX10_takeByte : MethodName := ⟨RX10, "takeByte", "(I)V"⟩
abbrev cX10_at : ByteArray := prog_12_method_7_code
def yX10_at : MethodName := ⟨RX10, "at", "(I)I"⟩
abbrev cX10_empty : ByteArray := prog_12_method_8_code
def yX10_empty : MethodName := ⟨RX10, "empty", "()V"⟩
def RX11 : String := "HomesickStamps"
def TX11 : u_T := fun k => match k with
  | 0 => ("HomesickStamps", "tape", "LHomesickStamps$Tape;", true)
  | 1 => ("HomesickStamps", "republic", "LHomesickStamps$Republic;", true)
  | 2 => ("HomesickStamps", "now", "LHomesickStamps$Letters;", true)
  | 3 => ("HomesickStamps", "kept", "LHomesickStamps$Letters;", true)
  | 4 => ("HomesickStamps", "trial", "LHomesickStamps$Letters;", true)
  | 5 => ("HomesickStamps", "clerk", "LHomesickStamps$Clerk;", true)
  | 6 => ("HomesickStamps", "crew", "LHomesickStamps$Crew;", true)
  | 7 => ("HomesickStamps", "riddles", "LHomesickStamps$Riddles;", true)
  | 8 => ("HomesickStamps", "sheetReader", "LHomesickStamps$SheetReader;", true)
  | 9 => ("HomesickStamps", "postReader", "LHomesickStamps$PostReader;", true)
  | 10 => ("HomesickStamps", "lawReader", "LHomesickStamps$LawReader;", true)
  | 11 => ("HomesickStamps", "seen", "[I", true)
  | 12 => ("HomesickStamps", "rules", "LHomesickStamps$Law;", false)
  | 13 => ("HomesickStamps", "spareRules", "LHomesickStamps$Law;", false)
  | _ => ("HomesickStamps", "wasKept", "Z", false)
def tyX11 : Nat → FieldType := fun k => match k with
  | 0 => .object "HomesickStamps$Tape"
  | 1 => .object "HomesickStamps$Republic"
  | 2 => .object "HomesickStamps$Letters"
  | 3 => .object "HomesickStamps$Letters"
  | 4 => .object "HomesickStamps$Letters"
  | 5 => .object "HomesickStamps$Clerk"
  | 6 => .object "HomesickStamps$Crew"
  | 7 => .object "HomesickStamps$Riddles"
  | 8 => .object "HomesickStamps$SheetReader"
  | 9 => .object "HomesickStamps$PostReader"
  | 10 => .object "HomesickStamps$LawReader"
  | 11 => .array .int
  | 12 => .object "HomesickStamps$Law"
  | 13 => .object "HomesickStamps$Law"
  | _ => .boolean
abbrev wsX110 : List Cond := u_ws RX11 TX11 15
theorem nmX11 : ∀ a, a < 15 → ∀ b, b < 15 → a ≠ b → (TX11 a).2.1 ≠ (TX11 b).2.1 := by decide +kernel
theorem tyX11_ok : ∀ k, k < 15 → parseFieldDescriptor (TX11 k).2.2.1 = some (tyX11 k) := by decide +kernel
abbrev cX11_init : ByteArray := prog_1_method_1_code
def yX11_init : MethodName := ⟨RX11, "<init>", "()V"⟩
abbrev cX11_mint : ByteArray := prog_1_method_2_code
def yX11_mint : MethodName := ⟨RX11, "mint", "(III)Z"⟩
abbrev cX11_feed : ByteArray := prog_1_method_3_code
def yX11_feed : MethodName := ⟨RX11, "feed", "(IIIII)I"⟩
abbrev cX11_law : ByteArray := prog_1_method_4_code
def yX11_law : MethodName := ⟨RX11, "law", "(I)I"⟩
abbrev cX11_sheet : ByteArray := prog_1_method_5_code
def yX11_sheet : MethodName := ⟨RX11, "sheet", "(I)I"⟩
abbrev cX11_post : ByteArray := prog_1_method_6_code
def yX11_post : MethodName := ⟨RX11, "post", "(I)I"⟩
abbrev cX11_days : ByteArray := prog_1_method_7_code
def yX11_days : MethodName := ⟨RX11, "days", "(I)I"⟩
abbrev cX11_tried : ByteArray := prog_1_method_8_code
def yX11_tried : MethodName := ⟨RX11, "tried", "(II)I"⟩
abbrev cX11_canBeTried : ByteArray := prog_1_method_9_code
def yX11_canBeTried : MethodName := ⟨RX11, "canBeTried", "(I)Z"⟩
abbrev cX11_letterIs : ByteArray := prog_1_method_10_code
def yX11_letterIs : MethodName := ⟨RX11, "letterIs", "(II)I"⟩
abbrev cX11_plainPull : ByteArray := prog_1_method_11_code
def yX11_plainPull : MethodName := ⟨RX11, "plainPull", "(IZ)I"⟩
abbrev cX11_stampIs : ByteArray := prog_1_method_12_code
def yX11_stampIs : MethodName := ⟨RX11, "stampIs", "(II)I"⟩
abbrev cX11_comes : ByteArray := prog_1_method_13_code
def yX11_comes : MethodName := ⟨RX11, "comes", "(III)I"⟩
abbrev cX11_atRest : ByteArray := prog_1_method_14_code
def yX11_atRest : MethodName := ⟨RX11, "atRest", "(II)I"⟩
abbrev cX11_meet : ByteArray := prog_1_method_15_code
def yX11_meet : MethodName := ⟨RX11, "meet", "(III)I"⟩
abbrev cX11_again : ByteArray := prog_1_method_16_code
def yX11_again : MethodName := ⟨RX11, "again", "(II)I"⟩
abbrev cX11_markSeen : ByteArray := prog_1_method_17_code
def yX11_markSeen : MethodName := ⟨RX11, "markSeen", "(I)V"⟩
abbrev cX11_wasSeen : ByteArray := prog_1_method_18_code
def yX11_wasSeen : MethodName := ⟨RX11, "wasSeen", "(I)Z"⟩
abbrev cX11_home : ByteArray := prog_1_method_19_code
def yX11_home : MethodName := ⟨RX11, "home", "(II)I"⟩
abbrev cX11_grainsFrom : ByteArray := prog_1_method_20_code
def yX11_grainsFrom : MethodName := ⟨RX11, "grainsFrom", "(II)I"⟩
abbrev cX11_lying : ByteArray := prog_1_method_21_code
def yX11_lying : MethodName := ⟨RX11, "lying", "(I)I"⟩
abbrev cX11_stamped : ByteArray := prog_1_method_22_code
def yX11_stamped : MethodName := ⟨RX11, "stamped", "(IIIII)I"⟩
abbrev cX11_hang : ByteArray := prog_1_method_23_code
def yX11_hang : MethodName := ⟨RX11, "hang", "(III)I"⟩
abbrev cX11_falseOnes : ByteArray := prog_1_method_24_code
def yX11_falseOnes : MethodName := ⟨RX11, "falseOnes", "(IIIII)I"⟩
abbrev cX11_gatherCrew : ByteArray := prog_1_method_25_code
def yX11_gatherCrew : MethodName := ⟨RX11, "gatherCrew", "(I)Z"⟩
abbrev cX11_sizeOrBits : ByteArray := prog_1_method_26_code
def yX11_sizeOrBits : MethodName := ⟨RX11, "sizeOrBits", "(II)I"⟩
abbrev cX11_printed : ByteArray := prog_1_method_27_code
def yX11_printed : MethodName := ⟨RX11, "printed", "(I)I"⟩
abbrev cX11_fitsAllPulls : ByteArray := prog_1_method_28_code
def yX11_fitsAllPulls : MethodName := ⟨RX11, "fitsAllPulls", "(II)Z"⟩
abbrev cX11_ship : ByteArray := prog_1_method_29_code
def yX11_ship : MethodName := ⟨RX11, "ship", "(II)I"⟩
abbrev cX11_mule : ByteArray := prog_1_method_30_code
def yX11_mule : MethodName := ⟨RX11, "mule", "(III)I"⟩
abbrev cX11_marks : ByteArray := prog_1_method_31_code
def yX11_marks : MethodName := ⟨RX11, "marks", "(II)I"⟩
abbrev cX11_franked : ByteArray := prog_1_method_32_code
def yX11_franked : MethodName := ⟨RX11, "franked", "(II)I"⟩
abbrev cX11_exchange : ByteArray := prog_1_method_33_code
def yX11_exchange : MethodName := ⟨RX11, "exchange", "(II)I"⟩
abbrev cX11_seed : ByteArray := prog_1_method_34_code
def yX11_seed : MethodName := ⟨RX11, "seed", "(I)Z"⟩
abbrev cX11_keep : ByteArray := prog_1_method_35_code
def yX11_keep : MethodName := ⟨RX11, "keep", "()I"⟩
abbrev cX11_undo : ByteArray := prog_1_method_36_code
def yX11_undo : MethodName := ⟨RX11, "undo", "()Z"⟩
abbrev cX11_check : ByteArray := prog_1_method_37_code
def yX11_check : MethodName := ⟨RX11, "check", "(I)I"⟩
abbrev cX11_count : ByteArray := prog_1_method_38_code
def yX11_count : MethodName := ⟨RX11, "count", "(I)I"⟩
abbrev cX11_within : ByteArray := prog_1_method_39_code
def yX11_within : MethodName := ⟨RX11, "within", "(III)Z"⟩
abbrev cX11_isPlace : ByteArray := prog_1_method_40_code
def yX11_isPlace : MethodName := ⟨RX11, "isPlace", "(I)Z"⟩
abbrev cX11_side : ByteArray := prog_1_method_41_code
def yX11_side : MethodName := ⟨RX11, "side", "(II)I"⟩
abbrev cX11_wayBits : ByteArray := prog_1_method_42_code
def yX11_wayBits : MethodName := ⟨RX11, "wayBits", "(II)I"⟩
abbrev cX11_wayOfPulls : ByteArray := prog_1_method_43_code
def yX11_wayOfPulls : MethodName := ⟨RX11, "wayOfPulls", "(III)I"⟩
abbrev cX11_stepFrom : ByteArray := prog_1_method_44_code
def yX11_stepFrom : MethodName := ⟨RX11, "stepFrom", "(II)I"⟩
def RX12 : String := "HomesickStampsModel"
def TX12 : u_T := fun k => match k with
  | 0 => ("HomesickStampsModel", "now", "[I", true)
  | 1 => ("HomesickStampsModel", "aside", "[I", true)
  | 2 => ("HomesickStampsModel", "kept", "[I", true)
  | 3 => ("HomesickStampsModel", "mintAt", "[I", true)
  | 4 => ("HomesickStampsModel", "mintOf", "[I", true)
  | 5 => ("HomesickStampsModel", "wholeOf", "[I", true)
  | 6 => ("HomesickStampsModel", "isWall", "[Z", true)
  | 7 => ("HomesickStampsModel", "wasWall", "[Z", true)
  | 8 => ("HomesickStampsModel", "stampMany", "I", false)
  | 9 => ("HomesickStampsModel", "tape", "[B", true)
  | 10 => ("HomesickStampsModel", "taped", "I", false)
  | 11 => ("HomesickStampsModel", "place0", "I", false)
  | 12 => ("HomesickStampsModel", "length0", "I", false)
  | 13 => ("HomesickStampsModel", "fault", "I", false)
  | 14 => ("HomesickStampsModel", "number0", "I", false)
  | 15 => ("HomesickStampsModel", "open", "I", false)
  | 16 => ("HomesickStampsModel", "codeMany", "I", false)
  | 17 => ("HomesickStampsModel", "waiting", "I", false)
  | 18 => ("HomesickStampsModel", "saidMany", "I", false)
  | 19 => ("HomesickStampsModel", "clauses", "I", false)
  | 20 => ("HomesickStampsModel", "said", "[I", true)
  | 21 => ("HomesickStampsModel", "waitsAt", "[I", true)
  | 22 => ("HomesickStampsModel", "saidLetter", "[I", true)
  | 23 => ("HomesickStampsModel", "saidFrom", "[I", true)
  | 24 => ("HomesickStampsModel", "saidHalf", "[I", true)
  | 25 => ("HomesickStampsModel", "saidTo", "[I", true)
  | 26 => ("HomesickStampsModel", "codes", "[I", true)
  | 27 => ("HomesickStampsModel", "clauseOf", "[I", true)
  | 28 => ("HomesickStampsModel", "codeFrom", "[I", true)
  | 29 => ("HomesickStampsModel", "codeHalf", "[I", true)
  | 30 => ("HomesickStampsModel", "codeTo", "[I", true)
  | 31 => ("HomesickStampsModel", "stack", "[I", true)
  | 32 => ("HomesickStampsModel", "facts", "[I", true)
  | 33 => ("HomesickStampsModel", "newStamps", "[I", true)
  | 34 => ("HomesickStampsModel", "roundFrom", "[I", true)
  | 35 => ("HomesickStampsModel", "roundAt", "[I", true)
  | 36 => ("HomesickStampsModel", "roundTimes", "[I", true)
  | 37 => ("HomesickStampsModel", "newMany", "I", false)
  | 38 => ("HomesickStampsModel", "rounds", "I", false)
  | 39 => ("HomesickStampsModel", "stampFrom", "I", false)
  | 40 => ("HomesickStampsModel", "stampTimes", "I", false)
  | 41 => ("HomesickStampsModel", "lines", "I", false)
  | 42 => ("HomesickStampsModel", "spot0", "I", false)
  | 43 => ("HomesickStampsModel", "pullAcross", "I", false)
  | 44 => ("HomesickStampsModel", "pullAlong", "I", false)
  | 45 => ("HomesickStampsModel", "stepsNow", "I", false)
  | 46 => ("HomesickStampsModel", "fallenNow", "I", false)
  | 47 => ("HomesickStampsModel", "usesNow", "[I", true)
  | 48 => ("HomesickStampsModel", "wasAt", "[Z", true)
  | 49 => ("HomesickStampsModel", "someOf", "[I", true)
  | 50 => ("HomesickStampsModel", "fewestFor", "[I", true)
  | 51 => ("HomesickStampsModel", "getsOf", "[I", true)
  | _ => ("HomesickStampsModel", "isKept", "Z", false)
def tyX12 : Nat → FieldType := fun k => match k with
  | 0 => .array .int
  | 1 => .array .int
  | 2 => .array .int
  | 3 => .array .int
  | 4 => .array .int
  | 5 => .array .int
  | 6 => .array .boolean
  | 7 => .array .boolean
  | 8 => .int
  | 9 => .array .byte
  | 10 => .int
  | 11 => .int
  | 12 => .int
  | 13 => .int
  | 14 => .int
  | 15 => .int
  | 16 => .int
  | 17 => .int
  | 18 => .int
  | 19 => .int
  | 20 => .array .int
  | 21 => .array .int
  | 22 => .array .int
  | 23 => .array .int
  | 24 => .array .int
  | 25 => .array .int
  | 26 => .array .int
  | 27 => .array .int
  | 28 => .array .int
  | 29 => .array .int
  | 30 => .array .int
  | 31 => .array .int
  | 32 => .array .int
  | 33 => .array .int
  | 34 => .array .int
  | 35 => .array .int
  | 36 => .array .int
  | 37 => .int
  | 38 => .int
  | 39 => .int
  | 40 => .int
  | 41 => .int
  | 42 => .int
  | 43 => .int
  | 44 => .int
  | 45 => .int
  | 46 => .int
  | 47 => .array .int
  | 48 => .array .boolean
  | 49 => .array .int
  | 50 => .array .int
  | 51 => .array .int
  | _ => .boolean
abbrev wsX120 : List Cond := u_ws RX12 TX12 53
theorem nmX12 : ∀ a, a < 53 → ∀ b, b < 53 → a ≠ b → (TX12 a).2.1 ≠ (TX12 b).2.1 := by decide +kernel
theorem tyX12_ok : ∀ k, k < 53 → parseFieldDescriptor (TX12 k).2.2.1 = some (tyX12 k) := by decide +kernel
abbrev cX12_init : ByteArray := prog_14_method_1_code
def yX12_init : MethodName := ⟨RX12, "<init>", "()V"⟩
abbrev cX12_in : ByteArray := prog_14_method_2_code
def yX12_in : MethodName := ⟨RX12, "in", "(III)Z"⟩
abbrev cX12_min : ByteArray := prog_14_method_3_code
def yX12_min : MethodName := ⟨RX12, "min", "(II)I"⟩
abbrev cX12_max : ByteArray := prog_14_method_4_code
def yX12_max : MethodName := ⟨RX12, "max", "(II)I"⟩
abbrev cX12_size : ByteArray := prog_14_method_5_code
def yX12_size : MethodName := ⟨RX12, "size", "(I)I"⟩
abbrev cX12_sign : ByteArray := prog_14_method_6_code
def yX12_sign : MethodName := ⟨RX12, "sign", "(I)I"⟩
abbrev cX12_has : ByteArray := prog_14_method_7_code
def yX12_has : MethodName := ⟨RX12, "has", "(II)Z"⟩
abbrev cX12_bits : ByteArray := prog_14_method_8_code
def yX12_bits : MethodName := ⟨RX12, "bits", "(I)I"⟩
abbrev cX12_copies : ByteArray := prog_14_method_9_code
def yX12_copies : MethodName := ⟨RX12, "copies", "([I[I)V"⟩
abbrev cX12_isPlace : ByteArray := prog_14_method_10_code
def yX12_isPlace : MethodName := ⟨RX12, "isPlace", "(I)Z"⟩
abbrev cX12_isTold : ByteArray := prog_14_method_11_code
def yX12_isTold : MethodName := ⟨RX12, "isTold", "(I)Z"⟩
abbrev cX12_isStamp : ByteArray := prog_14_method_12_code
def yX12_isStamp : MethodName := ⟨RX12, "isStamp", "(I)Z"⟩
abbrev cX12_sticks : ByteArray := prog_14_method_13_code
def yX12_sticks : MethodName := ⟨RX12, "sticks", "(II)Z"⟩
abbrev cX12_mint : ByteArray := prog_14_method_14_code
def yX12_mint : MethodName := ⟨RX12, "mint", "(III)Z"⟩
abbrev cX12_types : ByteArray := prog_14_method_15_code
def yX12_types : MethodName := ⟨RX12, "types", "(I)V"⟩
abbrev cX12_feed : ByteArray := prog_14_method_16_code
def yX12_feed : MethodName := ⟨RX12, "feed", "(IIIII)I"⟩
abbrev cX12_octet : ByteArray := prog_14_method_17_code
def yX12_octet : MethodName := ⟨RX12, "octet", "(I)I"⟩
abbrev cX12_here : ByteArray := prog_14_method_18_code
def yX12_here : MethodName := ⟨RX12, "here", "()I"⟩
abbrev cX12_isDigit : ByteArray := prog_14_method_19_code
def yX12_isDigit : MethodName := ⟨RX12, "isDigit", "()Z"⟩
abbrev cX12_wrongAt : ByteArray := prog_14_method_20_code
def yX12_wrongAt : MethodName := ⟨RX12, "wrongAt", "(II)Z"⟩
abbrev cX12_takes : ByteArray := prog_14_method_21_code
def yX12_takes : MethodName := ⟨RX12, "takes", "(I)Z"⟩
abbrev cX12_readsNumber : ByteArray := prog_14_method_22_code
def yX12_readsNumber : MethodName := ⟨RX12, "readsNumber", "()Z"⟩
abbrev cX12_notes : ByteArray := prog_14_method_23_code
def yX12_notes : MethodName := ⟨RX12, "notes", "(II)V"⟩
abbrev cX12_opens : ByteArray := prog_14_method_24_code
def yX12_opens : MethodName := ⟨RX12, "opens", "(I)Z"⟩
abbrev cX12_waitTop : ByteArray := prog_14_method_25_code
def yX12_waitTop : MethodName := ⟨RX12, "waitTop", "()I"⟩
abbrev cX12_factOf : ByteArray := prog_14_method_26_code
def yX12_factOf : MethodName := ⟨RX12, "factOf", "(I)I"⟩
abbrev cX12_sumSign : ByteArray := prog_14_method_27_code
def yX12_sumSign : MethodName := ⟨RX12, "sumSign", "(I)I"⟩
abbrev cX12_closesSums : ByteArray := prog_14_method_28_code
def yX12_closesSums : MethodName := ⟨RX12, "closesSums", "(Z)V"⟩
abbrev cX12_readsFactor : ByteArray := prog_14_method_29_code
def yX12_readsFactor : MethodName := ⟨RX12, "readsFactor", "()Z"⟩
abbrev cX12_hasOpenSum : ByteArray := prog_14_method_30_code
def yX12_hasOpenSum : MethodName := ⟨RX12, "hasOpenSum", "(I)Z"⟩
abbrev cX12_readsSum : ByteArray := prog_14_method_31_code
def yX12_readsSum : MethodName := ⟨RX12, "readsSum", "()Z"⟩
abbrev cX12_endsPiece : ByteArray := prog_14_method_32_code
def yX12_endsPiece : MethodName := ⟨RX12, "endsPiece", "()V"⟩
abbrev cX12_lands : ByteArray := prog_14_method_33_code
def yX12_lands : MethodName := ⟨RX12, "lands", "(Z)V"⟩
abbrev cX12_jumps : ByteArray := prog_14_method_34_code
def yX12_jumps : MethodName := ⟨RX12, "jumps", "(I)V"⟩
abbrev cX12_readsCompared : ByteArray := prog_14_method_35_code
def yX12_readsCompared : MethodName := ⟨RX12, "readsCompared", "()Z"⟩
abbrev cX12_readsCondition : ByteArray := prog_14_method_36_code
def yX12_readsCondition : MethodName := ⟨RX12, "readsCondition", "()Z"⟩
abbrev cX12_readsRule : ByteArray := prog_14_method_37_code
def yX12_readsRule : MethodName := ⟨RX12, "readsRule", "()Z"⟩
abbrev cX12_beginsText : ByteArray := prog_14_method_38_code
def yX12_beginsText : MethodName := ⟨RX12, "beginsText", "(I)V"⟩
abbrev cX12_law : ByteArray := prog_14_method_39_code
def yX12_law : MethodName := ⟨RX12, "law", "(I)I"⟩
abbrev cX12_reckon : ByteArray := prog_14_method_40_code
def yX12_reckon : MethodName := ⟨RX12, "reckon", "(III)I"⟩
abbrev cX12_reckonsTo : ByteArray := prog_14_method_41_code
def yX12_reckonsTo : MethodName := ⟨RX12, "reckonsTo", "(II)I"⟩
abbrev cX12_byLaw : ByteArray := prog_14_method_42_code
def yX12_byLaw : MethodName := ⟨RX12, "byLaw", "(II)I"⟩
abbrev cX12_holdsAny : ByteArray := prog_14_method_43_code
def yX12_holdsAny : MethodName := ⟨RX12, "holdsAny", "(I)Z"⟩
abbrev cX12_readsTimes : ByteArray := prog_14_method_44_code
def yX12_readsTimes : MethodName := ⟨RX12, "readsTimes", "()V"⟩
abbrev cX12_repeats : ByteArray := prog_14_method_45_code
def yX12_repeats : MethodName := ⟨RX12, "repeats", "(III)Z"⟩
abbrev cX12_readsStamp : ByteArray := prog_14_method_46_code
def yX12_readsStamp : MethodName := ⟨RX12, "readsStamp", "()Z"⟩
abbrev cX12_sheet : ByteArray := prog_14_method_47_code
def yX12_sheet : MethodName := ⟨RX12, "sheet", "(I)I"⟩
abbrev cX12_readsWithin : ByteArray := prog_14_method_48_code
def yX12_readsWithin : MethodName := ⟨RX12, "readsWithin", "(II)Z"⟩
abbrev cX12_readsSpot : ByteArray := prog_14_method_49_code
def yX12_readsSpot : MethodName := ⟨RX12, "readsSpot", "()Z"⟩
abbrev cX12_readsWall : ByteArray := prog_14_method_50_code
def yX12_readsWall : MethodName := ⟨RX12, "readsWall", "()Z"⟩
abbrev cX12_readsLetter : ByteArray := prog_14_method_51_code
def yX12_readsLetter : MethodName := ⟨RX12, "readsLetter", "(I)Z"⟩
abbrev cX12_readsLine : ByteArray := prog_14_method_52_code
def yX12_readsLine : MethodName := ⟨RX12, "readsLine", "()Z"⟩
abbrev cX12_post : ByteArray := prog_14_method_53_code
def yX12_post : MethodName := ⟨RX12, "post", "(I)I"⟩
abbrev cX12_acrossTo : ByteArray := prog_14_method_54_code
def yX12_acrossTo : MethodName := ⟨RX12, "acrossTo", "(II)I"⟩
abbrev cX12_alongTo : ByteArray := prog_14_method_55_code
def yX12_alongTo : MethodName := ⟨RX12, "alongTo", "(II)I"⟩
abbrev cX12_stepFrom : ByteArray := prog_14_method_56_code
def yX12_stepFrom : MethodName := ⟨RX12, "stepFrom", "(IIII)I"⟩
abbrev cX12_stampsOn : ByteArray := prog_14_method_57_code
def yX12_stampsOn : MethodName := ⟨RX12, "stampsOn", "(I)I"⟩
abbrev cX12_feels : ByteArray := prog_14_method_58_code
def yX12_feels : MethodName := ⟨RX12, "feels", "(III)V"⟩
abbrev cX12_asksStamp : ByteArray := prog_14_method_59_code
def yX12_asksStamp : MethodName := ⟨RX12, "asksStamp", "(III)V"⟩
abbrev cX12_letterGoes : ByteArray := prog_14_method_60_code
def yX12_letterGoes : MethodName := ⟨RX12, "letterGoes", "(I)V"⟩
abbrev cX12_dayGoes : ByteArray := prog_14_method_61_code
def yX12_dayGoes : MethodName := ⟨RX12, "dayGoes", "()V"⟩
abbrev cX12_daysGo : ByteArray := prog_14_method_62_code
def yX12_daysGo : MethodName := ⟨RX12, "daysGo", "(I)V"⟩
abbrev cX12_days : ByteArray := prog_14_method_63_code
def yX12_days : MethodName := ⟨RX12, "days", "(I)I"⟩
abbrev cX12_walledSet : ByteArray := prog_14_method_64_code
def yX12_walledSet : MethodName := ⟨RX12, "walledSet", "()I"⟩
abbrev cX12_canTry : ByteArray := prog_14_method_65_code
def yX12_canTry : MethodName := ⟨RX12, "canTry", "(I)Z"⟩
abbrev cX12_tried : ByteArray := prog_14_method_66_code
def yX12_tried : MethodName := ⟨RX12, "tried", "(II)I"⟩
abbrev cX12_lowestOn : ByteArray := prog_14_method_67_code
def yX12_lowestOn : MethodName := ⟨RX12, "lowestOn", "(I)I"⟩
abbrev cX12_plainPull : ByteArray := prog_14_method_68_code
def yX12_plainPull : MethodName := ⟨RX12, "plainPull", "(IZ)I"⟩
abbrev cX12_letterIs : ByteArray := prog_14_method_69_code
def yX12_letterIs : MethodName := ⟨RX12, "letterIs", "(II)I"⟩
abbrev cX12_letterOf : ByteArray := prog_14_method_70_code
def yX12_letterOf : MethodName := ⟨RX12, "letterOf", "(I)I"⟩
abbrev cX12_stampIs : ByteArray := prog_14_method_71_code
def yX12_stampIs : MethodName := ⟨RX12, "stampIs", "(II)I"⟩
abbrev cX12_comes : ByteArray := prog_14_method_72_code
def yX12_comes : MethodName := ⟨RX12, "comes", "(III)I"⟩
abbrev cX12_atRest : ByteArray := prog_14_method_73_code
def yX12_atRest : MethodName := ⟨RX12, "atRest", "(II)I"⟩
abbrev cX12_meet : ByteArray := prog_14_method_74_code
def yX12_meet : MethodName := ⟨RX12, "meet", "(III)I"⟩
abbrev cX12_again : ByteArray := prog_14_method_75_code
def yX12_again : MethodName := ⟨RX12, "again", "(II)I"⟩
abbrev cX12_home : ByteArray := prog_14_method_76_code
def yX12_home : MethodName := ⟨RX12, "home", "(II)I"⟩
abbrev cX12_lying : ByteArray := prog_14_method_77_code
def yX12_lying : MethodName := ⟨RX12, "lying", "(I)I"⟩
abbrev cX12_takesStamps : ByteArray := prog_14_method_78_code
def yX12_takesStamps : MethodName := ⟨RX12, "takesStamps", "(I)Z"⟩
abbrev cX12_pullOf : ByteArray := prog_14_method_79_code
def yX12_pullOf : MethodName := ⟨RX12, "pullOf", "(IIIZ)I"⟩
abbrev cX12_stepBy : ByteArray := prog_14_method_80_code
def yX12_stepBy : MethodName := ⟨RX12, "stepBy", "(III)I"⟩
abbrev cX12_brings : ByteArray := prog_14_method_81_code
def yX12_brings : MethodName := ⟨RX12, "brings", "(IIIII)Z"⟩
abbrev cX12_isLess : ByteArray := prog_14_method_82_code
def yX12_isLess : MethodName := ⟨RX12, "isLess", "(II)Z"⟩
abbrev cX12_stamped : ByteArray := prog_14_method_83_code
def yX12_stamped : MethodName := ⟨RX12, "stamped", "(IIIII)I"⟩
abbrev cX12_hang : ByteArray := prog_14_method_84_code
def yX12_hang : MethodName := ⟨RX12, "hang", "(III)I"⟩
abbrev cX12_falseOnes : ByteArray := prog_14_method_85_code
def yX12_falseOnes : MethodName := ⟨RX12, "falseOnes", "(IIIII)I"⟩
abbrev cX12_liesSo : ByteArray := prog_14_method_86_code
def yX12_liesSo : MethodName := ⟨RX12, "liesSo", "(II)Z"⟩
abbrev cX12_printed : ByteArray := prog_14_method_87_code
def yX12_printed : MethodName := ⟨RX12, "printed", "(I)I"⟩
abbrev cX12_sumOf : ByteArray := prog_14_method_88_code
def yX12_sumOf : MethodName := ⟨RX12, "sumOf", "(II)I"⟩
abbrev cX12_ship : ByteArray := prog_14_method_89_code
def yX12_ship : MethodName := ⟨RX12, "ship", "(II)I"⟩
abbrev cX12_mule : ByteArray := prog_14_method_90_code
def yX12_mule : MethodName := ⟨RX12, "mule", "(III)I"⟩
abbrev cX12_laysFewest : ByteArray := prog_14_method_91_code
def yX12_laysFewest : MethodName := ⟨RX12, "laysFewest", "(I)Z"⟩
abbrev cX12_marks : ByteArray := prog_14_method_92_code
def yX12_marks : MethodName := ⟨RX12, "marks", "(II)I"⟩
abbrev cX12_franked : ByteArray := prog_14_method_93_code
def yX12_franked : MethodName := ⟨RX12, "franked", "(II)I"⟩
abbrev cX12_areRows : ByteArray := prog_14_method_94_code
def yX12_areRows : MethodName := ⟨RX12, "areRows", "(I)Z"⟩
abbrev cX12_likesOf : ByteArray := prog_14_method_95_code
def yX12_likesOf : MethodName := ⟨RX12, "likesOf", "(III)I"⟩
abbrev cX12_changesRing : ByteArray := prog_14_method_96_code
def yX12_changesRing : MethodName := ⟨RX12, "changesRing", "(II)I"⟩
abbrev cX12_exchange : ByteArray := prog_14_method_97_code
def yX12_exchange : MethodName := ⟨RX12, "exchange", "(II)I"⟩
abbrev cX12_seed : ByteArray := prog_14_method_98_code
def yX12_seed : MethodName := ⟨RX12, "seed", "(I)Z"⟩
abbrev cX12_keep : ByteArray := prog_14_method_99_code
def yX12_keep : MethodName := ⟨RX12, "keep", "()I"⟩
abbrev cX12_undo : ByteArray := prog_14_method_100_code
def yX12_undo : MethodName := ⟨RX12, "undo", "()Z"⟩
abbrev cX12_check : ByteArray := prog_14_method_101_code
def yX12_check : MethodName := ⟨RX12, "check", "(I)I"⟩
abbrev cX12_toldMints : ByteArray := prog_14_method_102_code
def yX12_toldMints : MethodName := ⟨RX12, "toldMints", "()I"⟩
abbrev cX12_toldLetters : ByteArray := prog_14_method_103_code
def yX12_toldLetters : MethodName := ⟨RX12, "toldLetters", "()I"⟩
abbrev cX12_count : ByteArray := prog_14_method_104_code
def yX12_count : MethodName := ⟨RX12, "count", "(I)I"⟩
def RJx145de : String := "java/io/Serializable"
def TJx145de : u_T := fun k => match k with
  | _ => ("", "", "", false)
def tyJx145de : Nat → FieldType := fun k => match k with
  | _ => .int
abbrev wsJx145de0 : List Cond := u_ws RJx145de TJx145de 0
theorem nmJx145de : ∀ a, a < 0 → ∀ b, b < 0 → a ≠ b → (TJx145de a).2.1 ≠ (TJx145de b).2.1 := by decide +kernel
theorem tyJx145de_ok : ∀ k, k < 0 → parseFieldDescriptor (TJx145de k).2.2.1 = some (tyJx145de k) := by decide +kernel
def RJx9f9b0 : String := "java/lang/CharSequence"
def TJx9f9b0 : u_T := fun k => match k with
  | _ => ("", "", "", false)
def tyJx9f9b0 : Nat → FieldType := fun k => match k with
  | _ => .int
abbrev wsJx9f9b00 : List Cond := u_ws RJx9f9b0 TJx9f9b0 0
theorem nmJx9f9b0 : ∀ a, a < 0 → ∀ b, b < 0 → a ≠ b → (TJx9f9b0 a).2.1 ≠ (TJx9f9b0 b).2.1 := by decide +kernel
theorem tyJx9f9b0_ok : ∀ k, k < 0 → parseFieldDescriptor (TJx9f9b0 k).2.2.1 = some (tyJx9f9b0 k) := by decide +kernel
def RJ11 : String := "java/lang/Character"
def TJ11 : u_T := fun k => match k with
  | _ => ("", "", "", false)
def tyJ11 : Nat → FieldType := fun k => match k with
  | _ => .int
abbrev wsJ110 : List Cond := u_ws RJ11 TJ11 0
theorem nmJ11 : ∀ a, a < 0 → ∀ b, b < 0 → a ≠ b → (TJ11 a).2.1 ≠ (TJ11 b).2.1 := by decide +kernel
theorem tyJ11_ok : ∀ k, k < 0 → parseFieldDescriptor (TJ11 k).2.2.1 = some (tyJ11 k) := by decide +kernel
abbrev cJ11_isValidCodePoint_9a6ad : ByteArray := prog_15_method_11_code
def yJ11_isValidCodePoint_9a6ad : MethodName := ⟨RJ11, "isValidCodePoint", "(I)Z"⟩
abbrev cJ11_highSurrogate_5068e : ByteArray := prog_15_method_28_code
def yJ11_highSurrogate_5068e : MethodName := ⟨RJ11, "highSurrogate", "(I)C"⟩
abbrev cJ11_lowSurrogate_5068e : ByteArray := prog_15_method_29_code
def yJ11_lowSurrogate_5068e : MethodName := ⟨RJ11, "lowSurrogate", "(I)C"⟩
def RJxb160c : String := "java/lang/Comparable"
def TJxb160c : u_T := fun k => match k with
  | _ => ("", "", "", false)
def tyJxb160c : Nat → FieldType := fun k => match k with
  | _ => .int
abbrev wsJxb160c0 : List Cond := u_ws RJxb160c TJxb160c 0
theorem nmJxb160c : ∀ a, a < 0 → ∀ b, b < 0 → a ≠ b → (TJxb160c a).2.1 ≠ (TJxb160c b).2.1 := by decide +kernel
theorem tyJxb160c_ok : ∀ k, k < 0 → parseFieldDescriptor (TJxb160c k).2.2.1 = some (tyJxb160c k) := by decide +kernel
def RJ6 : String := "java/lang/Integer"
def TJ6 : u_T := fun k => match k with
  | _ => ("", "", "", false)
def tyJ6 : Nat → FieldType := fun k => match k with
  | _ => .int
abbrev wsJ60 : List Cond := u_ws RJ6 TJ6 0
theorem nmJ6 : ∀ a, a < 0 → ∀ b, b < 0 → a ≠ b → (TJ6 a).2.1 ≠ (TJ6 b).2.1 := by decide +kernel
theorem tyJ6_ok : ∀ k, k < 0 → parseFieldDescriptor (TJ6 k).2.2.1 = some (tyJ6 k) := by decide +kernel
abbrev cJ6_numberOfTrailingZeros_0f7a4 : ByteArray := prog_16_method_48_code
def yJ6_numberOfTrailingZeros_0f7a4 : MethodName := ⟨RJ6, "numberOfTrailingZeros", "(I)I"⟩
abbrev cJ6_bitCount_0f7a4 : ByteArray := prog_16_method_49_code
def yJ6_bitCount_0f7a4 : MethodName := ⟨RJ6, "bitCount", "(I)I"⟩
def RJ9 : String := "java/lang/Math"
def TJ9 : u_T := fun k => match k with
  | _ => ("", "", "", false)
def tyJ9 : Nat → FieldType := fun k => match k with
  | _ => .int
abbrev wsJ90 : List Cond := u_ws RJ9 TJ9 0
theorem nmJ9 : ∀ a, a < 0 → ∀ b, b < 0 → a ≠ b → (TJ9 a).2.1 ≠ (TJ9 b).2.1 := by decide +kernel
theorem tyJ9_ok : ∀ k, k < 0 → parseFieldDescriptor (TJ9 k).2.2.1 = some (tyJ9 k) := by decide +kernel
abbrev cJ9_abs_0f7a4 : ByteArray := prog_17_method_59_code
def yJ9_abs_0f7a4 : MethodName := ⟨RJ9, "abs", "(I)I"⟩
abbrev cJ9_max_7cf53 : ByteArray := prog_17_method_65_code
def yJ9_max_7cf53 : MethodName := ⟨RJ9, "max", "(II)I"⟩
abbrev cJ9_min_7cf53 : ByteArray := prog_17_method_69_code
def yJ9_min_7cf53 : MethodName := ⟨RJ9, "min", "(II)I"⟩
def RJ0 : String := "java/lang/String"
def TJ0 : u_T := fun k => match k with
  | _ => ("", "", "", false)
def tyJ0 : Nat → FieldType := fun k => match k with
  | _ => .int
abbrev wsJ00 : List Cond := u_ws RJ0 TJ0 0
theorem nmJ0 : ∀ a, a < 0 → ∀ b, b < 0 → a ≠ b → (TJ0 a).2.1 ≠ (TJ0 b).2.1 := by decide +kernel
theorem tyJ0_ok : ∀ k, k < 0 → parseFieldDescriptor (TJ0 k).2.2.1 = some (tyJ0 k) := by decide +kernel
abbrev cJ0_length_8abf5 : ByteArray := prog_18_method_54_code
def yJ0_length_8abf5 : MethodName := ⟨RJ0, "length", "()I"⟩
abbrev cJ0_indexOf_0f7a4 : ByteArray := prog_18_method_79_code
def yJ0_indexOf_0f7a4 : MethodName := ⟨RJ0, "indexOf", "(I)I"⟩
abbrev cJ0_indexOf_7cf53 : ByteArray := prog_18_method_80_code
def yJ0_indexOf_7cf53 : MethodName := ⟨RJ0, "indexOf", "(II)I"⟩
abbrev cJ0_coder_7d493 : ByteArray := prog_18_method_152_code
def yJ0_coder_7d493 : MethodName := ⟨RJ0, "coder", "()B"⟩
abbrev cJ0_isLatin1_aae02 : ByteArray := prog_18_method_154_code
def yJ0_isLatin1_aae02 : MethodName := ⟨RJ0, "isLatin1", "()Z"⟩
abbrev cJ0_checkBoundsBeginEnd_23922 : ByteArray := prog_18_method_158_code
def yJ0_checkBoundsBeginEnd_23922 : MethodName := ⟨RJ0, "checkBoundsBeginEnd", "(III)V"⟩
def RJ1 : String := "java/lang/StringLatin1"
def TJ1 : u_T := fun k => match k with
  | _ => ("", "", "", false)
def tyJ1 : Nat → FieldType := fun k => match k with
  | _ => .int
abbrev wsJ10 : List Cond := u_ws RJ1 TJ1 0
theorem nmJ1 : ∀ a, a < 0 → ∀ b, b < 0 → a ≠ b → (TJ1 a).2.1 ≠ (TJ1 b).2.1 := by decide +kernel
theorem tyJ1_ok : ∀ k, k < 0 → parseFieldDescriptor (TJ1 k).2.2.1 = some (tyJ1 k) := by decide +kernel
abbrev cJ1_canEncode_9a6ad : ByteArray := prog_19_method_4_code
def yJ1_canEncode_9a6ad : MethodName := ⟨RJ1, "canEncode", "(I)Z"⟩
abbrev cJ1_indexOf_4cfef : ByteArray := prog_19_method_22_code
def yJ1_indexOf_4cfef : MethodName := ⟨RJ1, "indexOf", "([BIII)I"⟩
abbrev cJ1_indexOfChar_4cfef : ByteArray := prog_19_method_23_code
def yJ1_indexOfChar_4cfef : MethodName := ⟨RJ1, "indexOfChar", "([BIII)I"⟩
def RJ2 : String := "java/lang/StringUTF16"
def TJ2 : u_T := fun k => match k with
  | _ => ("", "", "", false)
def tyJ2 : Nat → FieldType := fun k => match k with
  | _ => .int
abbrev wsJ20 : List Cond := u_ws RJ2 TJ2 0
theorem nmJ2 : ∀ a, a < 0 → ∀ b, b < 0 → a ≠ b → (TJ2 a).2.1 ≠ (TJ2 b).2.1 := by decide +kernel
theorem tyJ2_ok : ∀ k, k < 0 → parseFieldDescriptor (TJ2 k).2.2.1 = some (tyJ2 k) := by decide +kernel
abbrev cJ2_getChar_3b067 : ByteArray := prog_20_method_5_code
def yJ2_getChar_3b067 : MethodName := ⟨RJ2, "getChar", "([BI)C"⟩
abbrev cJ2_length_9d52b : ByteArray := prog_20_method_6_code
def yJ2_length_9d52b : MethodName := ⟨RJ2, "length", "([B)I"⟩
abbrev cJ2_indexOf_4cfef : ByteArray := prog_20_method_40_code
def yJ2_indexOf_4cfef : MethodName := ⟨RJ2, "indexOf", "([BIII)I"⟩
abbrev cJ2_indexOfChar_4cfef : ByteArray := prog_20_method_47_code
def yJ2_indexOfChar_4cfef : MethodName := ⟨RJ2, "indexOfChar", "([BIII)I"⟩
abbrev cJ2_indexOfCharUnsafe_4cfef : ByteArray := prog_20_method_48_code
def yJ2_indexOfCharUnsafe_4cfef : MethodName := ⟨RJ2, "indexOfCharUnsafe", "([BIII)I"⟩
abbrev cJ2_indexOfSupplementary_4cfef : ByteArray := prog_20_method_49_code
def yJ2_indexOfSupplementary_4cfef : MethodName := ⟨RJ2, "indexOfSupplementary", "([BIII)I"⟩
abbrev cJ2_checkBoundsBeginEnd_d044e : ByteArray := prog_20_method_93_code
def yJ2_checkBoundsBeginEnd_d044e : MethodName := ⟨RJ2, "checkBoundsBeginEnd", "(II[B)V"⟩
def RJ10 : String := "java/lang/System"
def TJ10 : u_T := fun k => match k with
  | _ => ("", "", "", false)
def tyJ10 : Nat → FieldType := fun k => match k with
  | _ => .int
abbrev wsJ100 : List Cond := u_ws RJ10 TJ10 0
theorem nmJ10 : ∀ a, a < 0 → ∀ b, b < 0 → a ≠ b → (TJ10 a).2.1 ≠ (TJ10 b).2.1 := by decide +kernel
theorem tyJ10_ok : ∀ k, k < 0 → parseFieldDescriptor (TJ10 k).2.2.1 = some (tyJ10 k) := by decide +kernel
def RJxfd54e : String := "java/lang/constant/Constable"
def TJxfd54e : u_T := fun k => match k with
  | _ => ("", "", "", false)
def tyJxfd54e : Nat → FieldType := fun k => match k with
  | _ => .int
abbrev wsJxfd54e0 : List Cond := u_ws RJxfd54e TJxfd54e 0
theorem nmJxfd54e : ∀ a, a < 0 → ∀ b, b < 0 → a ≠ b → (TJxfd54e a).2.1 ≠ (TJxfd54e b).2.1 := by decide +kernel
theorem tyJxfd54e_ok : ∀ k, k < 0 → parseFieldDescriptor (TJxfd54e k).2.2.1 = some (tyJxfd54e k) := by decide +kernel
def RJx3cf43 : String := "java/lang/constant/ConstantDesc"
def TJx3cf43 : u_T := fun k => match k with
  | _ => ("", "", "", false)
def tyJx3cf43 : Nat → FieldType := fun k => match k with
  | _ => .int
abbrev wsJx3cf430 : List Cond := u_ws RJx3cf43 TJx3cf43 0
theorem nmJx3cf43 : ∀ a, a < 0 → ∀ b, b < 0 → a ≠ b → (TJx3cf43 a).2.1 ≠ (TJx3cf43 b).2.1 := by decide +kernel
theorem tyJx3cf43_ok : ∀ k, k < 0 → parseFieldDescriptor (TJx3cf43 k).2.2.1 = some (tyJx3cf43 k) := by decide +kernel
def RJ7 : String := "java/util/Arrays"
def TJ7 : u_T := fun k => match k with
  | _ => ("", "", "", false)
def tyJ7 : Nat → FieldType := fun k => match k with
  | _ => .int
abbrev wsJ70 : List Cond := u_ws RJ7 TJ7 0
theorem nmJ7 : ∀ a, a < 0 → ∀ b, b < 0 → a ≠ b → (TJ7 a).2.1 ≠ (TJ7 b).2.1 := by decide +kernel
theorem tyJ7_ok : ∀ k, k < 0 → parseFieldDescriptor (TJ7 k).2.2.1 = some (tyJ7 k) := by decide +kernel
abbrev cJ7_fill_53178 : ByteArray := prog_22_method_103_code
def yJ7_fill_53178 : MethodName := ⟨RJ7, "fill", "([II)V"⟩
def RJ3 : String := "jdk/internal/util/Preconditions"
def TJ3 : u_T := fun k => match k with
  | _ => ("", "", "", false)
def tyJ3 : Nat → FieldType := fun k => match k with
  | _ => .int
abbrev wsJ30 : List Cond := u_ws RJ3 TJ3 0
theorem nmJ3 : ∀ a, a < 0 → ∀ b, b < 0 → a ≠ b → (TJ3 a).2.1 ≠ (TJ3 b).2.1 := by decide +kernel
theorem tyJ3_ok : ∀ k, k < 0 → parseFieldDescriptor (TJ3 k).2.2.1 = some (tyJ3 k) := by decide +kernel
abbrev cJ3_checkFromToIndex_8c36e : ByteArray := prog_23_method_12_code
def yJ3_checkFromToIndex_8c36e : MethodName := ⟨RJ3, "checkFromToIndex", "(IIILjava/util/function/BiFunction;)I"⟩
def RL : String := "HomesickStampsLaw"
abbrev cL_law : ByteArray := code
def yL_law : MethodName := ⟨RL, "law", "([I)Z"⟩
abbrev vwCl : List vw_C := [(RX0, TX0, 6), (RX1, TX1, 5), (RX2, TX2, 10), (RX3, TX3, 6), (RX4, TX4, 8), (RX5, TX5, 11), (RX7, TX7, 8), (RX8, TX8, 5), (RX9, TX9, 8), (RX10, TX10, 2), (RX11, TX11, 15), (RX12, TX12, 53)]
def TB : List Cond := lw_tbl.filter goodWord
theorem mTB {w : Cond} (i : Nat) (h : tables_1[i]? = some w) (hg : goodWord w = true) : w ∈ TB := List.mem_filter.mpr ⟨List.mem_append_right _ (List.mem_of_getElem? h), hg⟩
theorem mTBs {w : Cond} (i : Nat) (h : (k2_sels lw_privs)[i]? = some w) (hg : goodWord w = true) : w ∈ TB := List.mem_filter.mpr ⟨List.mem_append_left _ (List.mem_of_getElem? h), hg⟩
theorem mTBl {ws : List Cond} (ps : List Nat) (hp : ws = ps.filterMap (fun i => tables_1[i]?)) (h : ws.all goodWord = true) : ∀ w ∈ ws, w ∈ TB := by
  intro w hw
  have h1 := List.all_eq_true.mp h w hw
  rw [hp] at hw
  obtain ⟨i, -, hi⟩ := List.mem_filterMap.mp hw
  exact mTB i hi h1
theorem TB_good {w : Cond} (h : w ∈ TB) : (w.onTables && w.keeps) = true ∨ ∃ ty, w = .arrayClass ty := good_of_word (List.mem_filter.mp h).2
theorem TB_tbl {w : Cond} (h : w ∈ TB) : w ∈ lw_tbl := (List.mem_filter.mp h).1
def isNest : Cond → Bool
  | .methodLinkNest .. => true
  | .fieldLinkNest .. => true
  | _ => false
def NW : List Cond := tables_1.filter isNest
theorem mNW {w : Cond} (i : Nat) (h : tables_1[i]? = some w) (hg : isNest w = true) : w ∈ NW := List.mem_filter.mpr ⟨List.mem_of_getElem? h, hg⟩
theorem NW_warm {w : Cond} (h : w ∈ NW) {s U : State} (hW : s.WarmedH U.vm) (hZ : va_Nw w s) : va_Nw w U := by
  have h2 := (List.mem_filter.mp h).2
  cases w <;> first | exact va_Nw.warmM hW hZ | exact va_Nw.warmF hW hZ | (exact absurd h2 (by simp [isNest]))
theorem NW_same {w : Cond} (h : w ∈ NW) {s U : State} (hW : s.vm = U.vm) (hZ : va_Nw w s) : va_Nw w U := by
  have h2 := (List.mem_filter.mp h).2
  cases w <;> first | exact va_Nw.same rfl hW hZ | (exact absurd h2 (by simp [isNest]))
theorem NW_of {w : Cond} (h : w ∈ NW) {A : Array Value} {U : State} (hZ : w.before A U = true) : va_Nw w U := by
  have h2 := (List.mem_filter.mp h).2
  cases w <;> first | exact va_Nw.of rfl hZ | (exact absurd h2 (by simp [isNest]))
theorem NW_tbl {w : Cond} (h : w ∈ NW) : w ∈ lw_tbl := List.mem_append_right _ (List.mem_filter.mp h).1
theorem inX0 : ∀ w ∈ wsX00, w ∈ TB := mTBl [124, 126, 128, 130, 132, 134] (by decide +kernel) (by decide +kernel)
theorem inX1 : ∀ w ∈ wsX10, w ∈ TB := mTBl [148, 150, 152, 154, 156] (by decide +kernel) (by decide +kernel)
theorem inX2 : ∀ w ∈ wsX20, w ∈ TB := mTBl [261, 263, 265, 267, 269, 271, 273, 275, 277, 279] (by decide +kernel) (by decide +kernel)
theorem inX3 : ∀ w ∈ wsX30, w ∈ TB := mTBl [291, 292, 293, 294, 295, 289] (by decide +kernel) (by decide +kernel)
theorem inX4 : ∀ w ∈ wsX40, w ∈ TB := mTBl [95, 97, 99, 101, 103, 105, 107, 109] (by decide +kernel) (by decide +kernel)
theorem inX5 : ∀ w ∈ wsX50, w ∈ TB := mTBl [239, 240, 241, 242, 243, 227, 229, 231, 233, 235, 237] (by decide +kernel) (by decide +kernel)
theorem inX7 : ∀ w ∈ wsX70, w ∈ TB := mTBl [60, 62, 64, 66, 68, 70, 72, 74] (by decide +kernel) (by decide +kernel)
theorem inX8 : ∀ w ∈ wsX80, w ∈ TB := mTBl [170, 172, 174, 176, 178] (by decide +kernel) (by decide +kernel)
theorem inX9 : ∀ w ∈ wsX90, w ∈ TB := mTBl [204, 206, 208, 210, 212, 198, 200, 202] (by decide +kernel) (by decide +kernel)
theorem inX10 : ∀ w ∈ wsX100, w ∈ TB := mTBl [40, 42] (by decide +kernel) (by decide +kernel)
theorem inX11 : ∀ w ∈ wsX110, w ∈ TB := mTBl [312, 314, 316, 318, 320, 322, 324, 326, 328, 330, 332, 334, 336, 338, 340] (by decide +kernel) (by decide +kernel)
theorem inX12 : ∀ w ∈ wsX120, w ∈ TB := mTBl [1299, 1301, 1303, 1305, 1307, 1309, 1311, 1313, 1315, 1317, 1319, 1321, 1323, 1325, 1327, 1329, 1331, 1333, 1335, 1337, 1339, 1341, 1343, 1345, 1347, 1349, 1351, 1353, 1355, 1357, 1359, 1361, 1363, 1365, 1367, 1369, 1371, 1373, 1375, 1377, 1379, 1381, 1383, 1385, 1387, 1389, 1391, 1393, 1395, 1397, 1399, 1401, 1403] (by decide +kernel) (by decide +kernel)
end
section
/-! ===== a pure machine: values are ints, null, or the place of a cell in a list; its blocks are conditions; each is sound over the kit's rows ===== -/
abbrev PV : Type := Int32 ⊕ Option Nat
abbrev PE : Type := (Nat × Nat × (Nat → Int32)) ⊕ (Nat × List PV)
abbrev PH : Type := List PE
abbrev PL : Type := List (Option PV)
abbrev Blk : Type := PL → List PV → PH → Prop
def cV (ad : Nat → Nat) (v : PV) : Value := match v with
  | .inl x => .int x
  | .inr none => .null
  | .inr (some k) => .ref (ad k)
def cE (cs : Nat → ClassId) (ad : Nat → Nat) (e : PE) : va_E := match e with
  | .inl (t, n, f) => .inl (cs t, n, .inl f)
  | .inr (ci, fs) => .inr (ci, fs.map (cV ad))
def cW (cs : Nat → ClassId) (ad : Nat → Nat) (h : PH) : va_W := h.mapIdx (fun i e => (ad i, cE cs ad e))
theorem cV_cat (ad : Nat → Nat) (v : PV) : (cV ad v).category = 1 := by rcases v with x | _ | k <;> rfl
theorem cV_sum (ad : Nat → Nat) : ∀ (st : List PV), ((st.map (cV ad)).map fun v => v.category).sum = st.length
  | [] => rfl
  | v :: st => by simp only [List.map_cons, List.sum_cons, List.length_cons, cV_cat, cV_sum ad st]; omega
theorem cW_at {cs : Nat → ClassId} {ad : Nat → Nat} {h : PH} (k : Nat) : (cW cs ad h)[k]? = h[k]?.map (fun e => (ad k, cE cs ad e)) := by simp [cW]
theorem cW_get {cs : Nat → ClassId} {ad : Nat → Nat} {h : PH} {k : Nat} {e : PE} (hk : h[k]? = some e) : (cW cs ad h)[k]? = some (ad k, cE cs ad e) := by rw [cW_at, hk]; rfl
theorem cW_len {cs : Nat → ClassId} {ad : Nat → Nat} {h : PH} : (cW cs ad h).length = h.length := by simp [cW]
theorem cW_set {cs : Nat → ClassId} {ad : Nat → Nat} {h : PH} (k : Nat) (e : PE) : cW cs ad (h.set k e) = (cW cs ad h).set k (ad k, cE cs ad e) := by
  apply List.ext_getElem?
  intro i
  rw [cW_at, List.getElem?_set, List.getElem?_set, cW_at, cW_len]
  by_cases hk : k = i
  · subst hk
    by_cases hl : k < h.length <;> simp [hl]
  · simp [hk]
theorem cW_push {cs : Nat → ClassId} {ad : Nat → Nat} {h : PH} (e : PE) : cW cs ad (h ++ [e]) = cW cs ad h ++ [(ad h.length, cE cs ad e)] := by
  simp [cW, List.mapIdx_append]
def nth {α : Type} : List α → Nat → Option α
  | [], _ => none
  | x :: _, 0 => some x
  | _ :: l, n + 1 => nth l n
theorem nth_eq {α : Type} : ∀ (l : List α) (i : Nat), nth l i = l[i]?
  | [], i => by simp [nth]
  | x :: l, 0 => by simp [nth]
  | x :: l, n + 1 => by simp [nth, nth_eq l n]
def put {α : Type} : List α → Nat → α → (List α → Prop) → Prop
  | [], _, _, _ => False
  | _ :: l, 0, v, k => k (v :: l)
  | x :: l, n + 1, v, k => put l n v (fun l' => k (x :: l'))
theorem put_spec {α : Type} : ∀ (l : List α) (i : Nat) (v : α) (k : List α → Prop), put l i v k → i < l.length ∧ k (l.set i v)
  | [], i, v, k, h => h.elim
  | x :: l, 0, v, k, h => ⟨by simp, h⟩
  | x :: l, n + 1, v, k, h => by
    have h2 := put_spec l n v (fun l' => k (x :: l')) h
    exact ⟨by simp; exact h2.1, h2.2⟩
def snoc {α : Type} : List α → α → (List α → Prop) → Prop
  | [], v, k => k [v]
  | x :: l, v, k => snoc l v (fun l' => k (x :: l'))
theorem snoc_spec {α : Type} : ∀ (l : List α) (v : α) (k : List α → Prop), snoc l v k → k (l ++ [v])
  | [], v, k, h => h
  | x :: l, v, k, h => snoc_spec l v (fun l' => k (x :: l')) h
def popN : Nat → List PV → List PV → (List PV → List PV → Prop) → Prop
  | 0, st, acc, k => k acc st
  | n + 1, v :: st, acc, k => popN n st (v :: acc) k
  | _ + 1, [], _, _ => False
theorem popN_spec : ∀ (n : Nat) (st acc : List PV) (k : List PV → List PV → Prop), popN n st acc k → ∃ as rest, st = as.reverse ++ rest ∧ as.length = n ∧ k (as ++ acc) rest
  | 0, st, acc, k, h => ⟨[], st, rfl, rfl, h⟩
  | n + 1, [], acc, k, h => h.elim
  | n + 1, v :: st, acc, k, h => by
    obtain ⟨as, rest, h1, h2, h3⟩ := popN_spec n st (v :: acc) k h
    exact ⟨as ++ [v], rest, by simp [h1], by simp [h2], by simpa using h3⟩
/-- which addresses: as a0 has them, but for the cells that came -/
def ag (n0 : Nat) (a0 ad : Nat → Nat) (n : Nat) : Prop := n0 ≤ n ∧ ∀ i, (i < n0 ∨ n ≤ i) → ad i = a0 i
def plr (ad : Nat → Nat) (ls : Array Slot) (nL : Nat) (L : PL) : Prop := ls.size = nL ∧ L.length = nL ∧ lv_wf ls ∧ ∀ (i : Nat) (v : PV), nth L i = some (some v) → ls[i]? = some (.val (cV ad v))
def prs (ad : Nat → Nat) : Nat → PL → List (Nat × Value)
  | _, [] => []
  | i, some v :: L => (i, cV ad v) :: prs ad (i + 1) L
  | i, none :: L => prs ad (i + 1) L
theorem prs_in (ad : Nat → Nat) : ∀ (L : PL) (b i : Nat) (v : PV), nth L i = some (some v) → (b + i, cV ad v) ∈ prs ad b L
  | [], b, i, v, h => by simp [nth] at h
  | x :: L, b, 0, v, h => by
    simp [nth] at h
    subst h
    simp [prs]
  | x :: L, b, i + 1, v, h => by
    have h2 := prs_in ad L (b + 1) i v h
    rw [show b + (i + 1) = b + 1 + i by omega]
    cases x with
    | none => exact h2
    | some w => exact List.mem_cons_of_mem _ h2
theorem prs_out (ad : Nat → Nat) : ∀ (L : PL) (b : Nat) (q : Nat × Value), q ∈ prs ad b L → ∃ i v, q = (b + i, cV ad v) ∧ nth L i = some (some v)
  | [], b, q, h => by simp [prs] at h
  | none :: L, b, q, h => by
    obtain ⟨i, v, h1, h2⟩ := prs_out ad L (b + 1) q h
    exact ⟨i + 1, v, by rw [h1]; congr 1; omega, h2⟩
  | some w :: L, b, q, h => by
    rcases List.mem_cons.mp h with h | h
    · exact ⟨0, w, by rw [h]; rfl, rfl⟩
    · obtain ⟨i, v, h1, h2⟩ := prs_out ad L (b + 1) q h
      exact ⟨i + 1, v, by rw [h1]; congr 1; omega, h2⟩
theorem plr.has {ad : Nat → Nat} {ls : Array Slot} {nL : Nat} {L : PL} (h : plr ad ls nL L) : lv_has ls nL (prs ad 0 L) :=
  ⟨h.1, h.2.2.1, fun q hq => by
    obtain ⟨i, v, h1, h2⟩ := prs_out ad L 0 q hq
    rw [h1]
    simpa using h.2.2.2 i v h2⟩
theorem plr.put {ad : Nat → Nat} {ls ls' : Array Slot} {nL : Nat} {L : PL} {i : Nat} {v : PV} (h : plr ad ls nL L) (hi : i < nL) (h' : lv_has ls' nL ((i, cV ad v) :: (prs ad 0 L).filter (fun q => !(q.1 == i) && !(q.1 + 1 == i && q.2.category == 2)))) : plr ad ls' nL (L.set i (some v)) := by
  refine ⟨h'.1, by rw [List.length_set]; exact h.2.1, h'.2.1, fun j w hj => ?_⟩
  rw [nth_eq, List.getElem?_set] at hj
  by_cases hij : i = j
  · subst hij
    rw [if_pos rfl, h.2.1, if_pos hi] at hj
    cases hj
    exact h'.2.2 _ List.mem_cons_self
  · rw [if_neg hij] at hj
    refine h'.2.2 (j, cV ad w) (List.mem_cons_of_mem _ (List.mem_filter.mpr ⟨?_, ?_⟩))
    · have := prs_in ad L 0 j w (by rw [nth_eq]; exact hj)
      simpa using this
    · simp [cV_cat, Ne.symm hij]
/-- a value that names no cell of a range; all values of a state likewise -/
def okV (lo hi : Nat) (v : PV) : Bool := match v with
  | .inr (some k) => Nat.blt k lo || Nat.ble hi k
  | _ => true
def okF (lo hi : Nat) : List PV → Bool
  | [] => true
  | v :: l => okV lo hi v && okF lo hi l
def okH (lo hi : Nat) : PH → Bool
  | [] => true
  | .inl _ :: h => okH lo hi h
  | .inr (_, fs) :: h => okF lo hi fs && okH lo hi h
def okL (lo hi : Nat) : PL → Bool
  | [] => true
  | none :: L => okL lo hi L
  | some v :: L => okV lo hi v && okL lo hi L
theorem okV_cV {lo hi : Nat} {v : PV} {ad ad' : Nat → Nat} (h : okV lo hi v = true) (ha : ∀ i, (i < lo ∨ hi ≤ i) → ad' i = ad i) : cV ad' v = cV ad v := by
  rcases v with x | _ | k
  · rfl
  · rfl
  · simp only [okV, Bool.or_eq_true] at h
    show Value.ref (ad' k) = .ref (ad k)
    rw [ha k (h.imp (fun z => by simpa using z) (fun z => by simpa using z))]
theorem okF_cV {lo hi : Nat} {ad ad' : Nat → Nat} (ha : ∀ i, (i < lo ∨ hi ≤ i) → ad' i = ad i) : ∀ {l : List PV}, okF lo hi l = true → l.map (cV ad') = l.map (cV ad)
  | [], _ => rfl
  | v :: l, h => by
    simp only [okF, Bool.and_eq_true] at h
    rw [List.map_cons, List.map_cons, okV_cV h.1 ha, okF_cV ha h.2]
theorem okL_cV {lo hi : Nat} {ad ad' : Nat → Nat} (ha : ∀ i, (i < lo ∨ hi ≤ i) → ad' i = ad i) : ∀ {L : PL}, okL lo hi L = true → ∀ (i : Nat) (v : PV), nth L i = some (some v) → cV ad' v = cV ad v
  | [], _, i, v, hv => by simp [nth] at hv
  | none :: L, h, i, v, hv => by
    cases i with
    | zero => simp [nth] at hv
    | succ i => exact okL_cV (L := L) ha h i v hv
  | some w :: L, h, i, v, hv => by
    simp only [okL, Bool.and_eq_true] at h
    cases i with
    | zero => simp [nth] at hv; subst hv; exact okV_cV h.1 ha
    | succ i => exact okL_cV (L := L) ha h.2 i v hv
theorem okH_cE {lo hi : Nat} {cs : Nat → ClassId} {ad ad' : Nat → Nat} (ha : ∀ i, (i < lo ∨ hi ≤ i) → ad' i = ad i) : ∀ {h : PH}, okH lo hi h = true → ∀ (i : Nat) (e : PE), h[i]? = some e → cE cs ad' e = cE cs ad e
  | [], _, i, v, hv => by simp at hv
  | .inl x :: L, h, i, v, hv => by
    cases i with
    | zero => simp at hv; subst hv; rfl
    | succ i => exact okH_cE ha (show okH lo hi L = true from h) i v (by simpa using hv)
  | .inr (ci, fs) :: L, h, i, v, hv => by
    simp only [okH, Bool.and_eq_true] at h
    cases i with
    | zero =>
      simp at hv; subst hv
      show Sum.inr (ci, fs.map (cV ad')) = Sum.inr (ci, fs.map (cV ad))
      rw [okF_cV ha h.1]
    | succ i => exact okH_cE ha h.2 i v (by simpa using hv)
theorem okH_cW {lo : Nat} {cs : Nat → ClassId} {ad ad' : Nat → Nat} {h : PH} (hi : Nat) (ha : ∀ i, (i < lo ∨ hi ≤ i) → ad' i = ad i) (hl : h.length ≤ lo) (h1 : okH lo hi h = true) : cW cs ad' h = cW cs ad h := by
  apply List.ext_getElem?
  intro i
  rw [cW_at, cW_at]
  cases he : h[i]? with
  | none => rfl
  | some e =>
    have hi' : i < h.length := (List.getElem?_eq_some_iff.mp he).1
    show some (ad' i, cE cs ad' e) = some (ad i, cE cs ad e)
    rw [ha i (Or.inl (by omega)), okH_cE ha h1 i e he]
theorem plr.moved {lo hi : Nat} {ad ad' : Nat → Nat} {ls : Array Slot} {nL : Nat} {L : PL} (ha : ∀ i, (i < lo ∨ hi ≤ i) → ad' i = ad i) (h1 : okL lo hi L = true) (h : plr ad ls nL L) : plr ad' ls nL L :=
  ⟨h.1, h.2.1, h.2.2.1, fun i v hv => by rw [okL_cV ha h1 i v hv]; exact h.2.2.2 i v hv⟩
def tys (cs : Nat → ClassId) : List (ClassId × FieldType) := [(cs 0, .int), (cs 1, .byte), (cs 2, .boolean)]
/-- what a walk stands on -/
def MC (p : Program) (s : State) (m : MethodId) (args : Array Value) (meth : Method) (c : Code) (own nm : String) (cc : ByteArray) (nL : Nat) (rt : Option FieldType) (D : va_G) (cs : Nat → ClassId) (A : Nat → Prop) : Prop :=
  p.tables.exec = Jvm.exec ∧ c.code = cc ∧ c.maxLocals = nL ∧ s.vm.findClass own = some m.cls ∧ (∀ w ∈ TB, w.before args s = true) ∧ (∀ w ∈ NW, va_Nw w s) ∧ va_K D vwCl (tys cs) s ∧ (∀ q : Nat, s.heap.size ≤ q → A q) ∧ meth.sig.returnType = rt ∧ meth.name = nm ∧ meth.locks = false
def BK (p : Program) (l : Launch) (e : Env) (R : Room) (s : State) (m : MethodId) (args : Array Value) (below : List Frame) (meth : Method) (c : Code) (nL : Nat) (D : va_G) (cs : Nat → ClassId) (A : Nat → Prop) (n0 : Nat) (a0 : Nat → Nat) (Q : State → Prop) (pc cells slots : Nat) (B : Blk) : Prop :=
  ∀ (ad : Nat → Nat) (ls : Array Slot) (L : PL) (st : List PV) (h : PH) (H : Heap) (locs : List Loc), ag n0 a0 ad h.length → plr ad ls nL L → va_P D vwCl (cW cs ad h) H → va_D A (cW cs ad h) → va_S A s.heap H locs → B L st h → W p l e R s m args below meth c H locs cells slots Q (F0 m pc ls (st.map (cV ad)))
/-- a method's end: what it answers, what its cells hold then, at which addresses -/
def Qp (D : va_G) (cs : Nat → ClassId) (A : Nat → Prop) (n0 : Nat) (a0 : Nat → Nat) (post : Option PV → PH → Prop) : Array Value → State → Outcome → State → Prop := fun _ st oc t =>
  (∃ (r : Option PV) (h' : PH) (ad' : Nat → Nat), oc = .returned (r.map (cV ad')) ∧ post r h' ∧ ag n0 a0 ad' h'.length ∧ va_P D vwCl (cW cs ad' h') t.heap ∧ va_D A (cW cs ad' h')) ∧ va_F A st t
def rmD (d mc ms : Nat) : Room := { frames := d, cells := mc, slots := ms, locals := 64 * d }
def prD (D : va_G) (cs : Nat → ClassId) (ad : Nat → Nat) (h : PH) (sz : Nat) (U : State) : Prop := U.heap.size = sz ∧ va_P D vwCl (cW cs ad h) U.heap ∧ va_K D vwCl (tys cs) U ∧ va_D (fun _ => True) (cW cs ad h) ∧ ∀ w ∈ NW, va_Nw w U
/-- a method's contract: from these arguments and these cells it returns, and post holds of the answer and of the cells then -/
def MetP (l : Launch) (d : Nat) (y : MethodName) (cc : ByteArray) (maxL : Nat) (rt : Option FieldType) (mc ms : Nat) (as : List PV) (h : PH) (post : Option PV → PH → Prop) : Prop :=
  ∀ (D : va_G) (cs : Nat → ClassId) (ad : Nat → Nat) (sz : Nat), Met l y (Cond.code y cc maxL rt :: TB) (rmD d mc ms) (va_Pc (as.map (cV ad)) (prD D cs ad h sz)) (Qp D cs (va_A (cW cs ad h) sz) h.length ad post) mc ms (va_A (cW cs ad h) sz)
def enL (as : List PV) (nL : Nat) : PL := as.map some ++ List.replicate (nL - as.length) none
theorem lg_sl_cV (ad : Nat → Nat) : ∀ (as : List PV), lg_sl (as.map (cV ad)) = as.map (fun v => Slot.val (cV ad v))
  | [] => rfl
  | v :: as => by
    have h := lg_sl_cV ad as
    unfold lg_sl at h ⊢
    rw [List.map_cons, List.flatMap_cons, h, cV_cat]
    rfl
theorem plr_entry (ad : Nat → Nat) (as : List PV) {nL : Nat} (h : as.length ≤ nL) : plr ad ((lg_sl (as.map (cV ad)) ++ List.replicate (nL - (lg_sl (as.map (cV ad))).length) Slot.unset).toArray) nL (enL as nL) := by
  have hh := lv_entry (as.map (cV ad)) (n := nL) (by rw [lg_sl_cV]; simpa using h)
  refine ⟨hh.1, by simp [enL]; omega, hh.2.1, fun i v hv => ?_⟩
  rw [nth_eq, enL, List.getElem?_append] at hv
  by_cases hi : i < (as.map some).length
  · rw [if_pos hi] at hv
    rw [lg_sl_cV, List.getElem?_toArray, List.getElem?_append, if_pos (by simpa using hi)]
    rw [List.getElem?_map] at hv ⊢
    cases ha : as[i]? with
    | none => rw [ha] at hv; cases hv
    | some w => rw [ha] at hv; cases hv; rfl
  · rw [if_neg hi, List.getElem?_replicate] at hv
    split at hv <;> cases hv
theorem MetP.of {l : Launch} {d : Nat} {y : MethodName} {cc : ByteArray} {maxL : Nat} {rt : Option FieldType} {mc ms : Nat} {as : List PV} {h : PH} {post : Option PV → PH → Prop} {B : Blk} (hy : plainName y.cls = true) (hn : as.length ≤ maxL)
    (body : ∀ p e s m args below meth c D cs A ad, MC p s m args meth c y.cls y.name cc maxL rt D cs A → BK p l e (rmD d mc ms) s m args below meth c maxL D cs A h.length ad (MQ below (Qp D cs A h.length ad post) args s mc ms A) 0 0 0 B) (hB : B (enL as maxL) [] h) : MetP l d y cc maxL rt mc ms as h post := by
  intro D cs ad sz
  refine Met.ofW (cc := cc) (maxL := maxL) (ret := rt) hy rfl ?_
  intro p e s m args below meth c s₁ B0 hml hv
  obtain ⟨rfl, hsz, hP, hK, hD, hN⟩ := hv
  subst hsz
  have hts := atoms_spec (ws := Cond.code y cc maxL rt :: TB) B0.pre
  have hX : MC p s m (as.map (cV ad)).toArray meth c y.cls y.name cc maxL rt D cs (va_A (cW cs ad h) s.heap.size) :=
    ⟨B0.exec, B0.bytes, hml, findClass_of_methodNamed B0.named, fun w hw => hts w (List.mem_cons_of_mem _ hw), hN, hK, fun q hq => Or.inr hq, B0.returns, (name_of_methodNamed B0.named B0.method).1, B0.notSynchronized⟩
  rw [lg_entry_eq]
  exact body p e s m _ below meth c D cs _ ad hX ad _ (enL as maxL) [] h s.heap [] ⟨Nat.le_refl _, fun _ _ => rfl⟩ (plr_entry ad as hn) hP hD.self va_S.rf hB
theorem MetP.mono {l : Launch} {d : Nat} {y : MethodName} {cc : ByteArray} {maxL : Nat} {rt : Option FieldType} {mc ms : Nat} {as : List PV} {h : PH} {post post' : Option PV → PH → Prop} (H : MetP l d y cc maxL rt mc ms as h post) (hp : ∀ r h', post r h' → post' r h') : MetP l d y cc maxL rt mc ms as h post' := by
  intro D cs ad sz p e ha hc hk s m args below hf happ hpre hK
  obtain ⟨t, o, h1, h2, h3, ⟨⟨⟨r, h', ad', e1, e2, e3⟩, e4⟩, e5⟩⟩ := H D cs ad sz p e ha hc hk s m args below hf happ hpre hK
  exact ⟨t, o, h1, h2, h3, ⟨⟨⟨r, h', ad', e1, hp r h' e2, e3⟩, e4⟩, e5⟩⟩
section LOOP
variable {p : Program} {l : Launch} {e : Env} {R : Room} {s : State} {m : MethodId} {args : Array Value} {below : List Frame} {meth : Method} {c : Code} {nL : Nat} {D : va_G} {cs : Nat → ClassId} {A : Nat → Prop} {n0 : Nat} {a0 : Nat → Nat} {Q : State → Prop}
theorem BK.loop {ce sl : Nat → Nat} {body : (Nat → Blk) → Nat → Blk} (hk : ∀ C : Nat → Blk, (∀ pc, BK p l e R s m args below meth c nL D cs A n0 a0 Q pc (ce pc) (sl pc) (C pc)) → ∀ pc, BK p l e R s m args below meth c nL D cs A n0 a0 Q pc (ce pc) (sl pc) (body C pc))
    (I : Nat → Nat → Blk) (hI : ∀ μ pc L st h, I μ pc L st h → body (fun pc' L' st' h' => ∃ μ', μ' < μ ∧ I μ' pc' L' st' h') pc L st h) : ∀ μ pc, BK p l e R s m args below meth c nL D cs A n0 a0 Q pc (ce pc) (sl pc) (I μ pc) := by
  intro μ
  induction μ using Nat.strongRecOn with
  | _ μ ih =>
    intro pc ad ls L st h H locs h1 h2 h3 h4 h5 h6
    refine hk (fun pc' L' st' h' => ∃ μ', μ' < μ ∧ I μ' pc' L' st' h') ?_ pc ad ls L st h H locs h1 h2 h3 h4 h5 (hI μ pc L st h h6)
    intro pc' ad' ls' L' st' h' H' locs' g1 g2 g3 g4 g5 g6
    obtain ⟨μ', hlt, g7⟩ := g6
    exact ih μ' hlt pc' ad' ls' L' st' h' H' locs' g1 g2 g3 g4 g5 g7
end LOOP
end
section
/-! ===== the instructions: a block from the block behind it ===== -/
def o_push (v : PV) (k : Blk) : Blk := fun L st h => k L (v :: st) h
def o_iload (i : Nat) (k : Blk) : Blk := fun L st h => match nth L i with
  | some (some (.inl x)) => k L (.inl x :: st) h
  | _ => False
def o_aload (i : Nat) (k : Blk) : Blk := fun L st h => match nth L i with
  | some (some (.inr r)) => k L (.inr r :: st) h
  | _ => False
def o_istore (i : Nat) (k : Blk) : Blk := fun L st h => match st with
  | .inl x :: r => put L i (some (.inl x)) (fun L' => k L' r h)
  | _ => False
def o_astore (i : Nat) (k : Blk) : Blk := fun L st h => match st with
  | .inr x :: r => put L i (some (.inr x)) (fun L' => k L' r h)
  | _ => False
def o_iinc (i : Nat) (n : Int32) (k : Blk) : Blk := fun L st h => match nth L i with
  | some (some (.inl x)) => put L i (some (.inl (x + n))) (fun L' => k L' st h)
  | _ => False
def o_bin (f : Int32 → Int32 → Int32) (k : Blk) : Blk := fun L st h => match st with
  | .inl y :: .inl x :: r => k L (.inl (f x y) :: r) h
  | _ => False
def o_un (f : Int32 → Int32) (k : Blk) : Blk := fun L st h => match st with
  | .inl x :: r => k L (.inl (f x) :: r) h
  | _ => False
def f_add (x y : Int32) : Int32 := x + y
def f_sub (x y : Int32) : Int32 := x - y
def f_mul (x y : Int32) : Int32 := x * y
def f_and (x y : Int32) : Int32 := x &&& y
def f_or (x y : Int32) : Int32 := x ||| y
def f_xor (x y : Int32) : Int32 := x ^^^ y
def f_shl (x y : Int32) : Int32 := x <<< (y &&& 31)
def f_shr (x y : Int32) : Int32 := x >>> (y &&& 31)
def f_ushr (x y : Int32) : Int32 := (x.toUInt32 >>> (y.toUInt32 &&& Int32.toUInt32 31)).toInt32
def f_neg (x : Int32) : Int32 := -x
def f_i2b (x : Int32) : Int32 := x.toInt8.toInt32
def f_i2c (x : Int32) : Int32 := (x.toUInt32 % 65536).toInt32
def o_div (k : Blk) : Blk := fun L st h => match st with
  | .inl y :: .inl x :: r => ¬ y = 0 ∧ k L (.inl (x / y) :: r) h
  | _ => False
def o_rem (k : Blk) : Blk := fun L st h => match st with
  | .inl y :: .inl x :: r => ¬ y = 0 ∧ k L (.inl (x - x / y * y) :: r) h
  | _ => False
def o_if (c : Int32 → Prop) (kt kf : Blk) : Blk := fun L st h => match st with
  | .inl x :: r => (c x → kt L r h) ∧ (¬ c x → kf L r h)
  | _ => False
def o_icmp (c : Int32 → Int32 → Prop) (kt kf : Blk) : Blk := fun L st h => match st with
  | .inl y :: .inl x :: r => (c x y → kt L r h) ∧ (¬ c x y → kf L r h)
  | _ => False
def c_eq (x y : Int32) : Prop := x = y
def c_lt (x y : Int32) : Prop := x < y
def c_ge (x y : Int32) : Prop := y ≤ x
def c_gt (x y : Int32) : Prop := y < x
def c_le (x y : Int32) : Prop := x ≤ y
def o_sw (kd : Blk) : List (Int32 × Blk) → Blk
  | [], L, st, h => match st with
    | .inl _ :: r => kd L r h
    | _ => False
  | (v, k) :: ks, L, st, h => match st with
    | .inl x :: r => (x = v → k L r h) ∧ (¬ x = v → o_sw kd ks L (.inl x :: r) h)
    | _ => False
def o_dup (k : Blk) : Blk := fun L st h => match st with
  | v :: r => k L (v :: v :: r) h
  | _ => False
def o_dup2 (k : Blk) : Blk := fun L st h => match st with
  | v :: w :: r => k L (v :: w :: v :: w :: r) h
  | _ => False
def o_dupx1 (k : Blk) : Blk := fun L st h => match st with
  | v :: w :: r => k L (v :: w :: v :: r) h
  | _ => False
def o_pop (k : Blk) : Blk := fun L st h => match st with
  | _ :: r => k L r h
  | _ => False
def o_getf (cis : List Nat) (j : Nat) (k : Blk) : Blk := fun L st h => match st with
  | .inr (some a) :: r => match nth h a with
    | some (.inr (ci, fs)) => match cis.contains ci with
      | true => match nth fs j with
        | some v => k L (v :: r) h
        | none => False
      | false => False
    | _ => False
  | _ => False
def fitK (ty : Nat) (v : PV) (K : Prop) : Prop := match ty, v with
  | 0, .inl _ => K
  | 1, .inl x => (x = 0 ∨ x = 1) ∧ K
  | 2, .inr _ => K
  | _, _ => False
def o_putf (cis : List Nat) (j ty : Nat) (k : Blk) : Blk := fun L st h => match st with
  | v :: .inr (some a) :: r => match nth h a with
    | some (.inr (ci, fs)) => match cis.contains ci with
      | true => fitK ty v (put fs j v (fun fs' => put h a (.inr (ci, fs')) (fun h' => k L r h')))
      | false => False
    | _ => False
  | _ => False
def o_ald (ts : List Nat) (k : Blk) : Blk := fun L st h => match st with
  | .inl i :: .inr (some a) :: r => match nth h a with
    | some (.inl (t, n, f)) => match ts.contains t with
      | true => vp_in i n ∧ k L (.inl (f i.toNatClampNeg) :: r) h
      | false => False
    | _ => False
  | _ => False
def f_nar (t : Nat) (x : Int32) : Int32 := match t with
  | 1 => vp_nar .byte x
  | 2 => vp_nar .boolean x
  | _ => x
def o_ast (ts : List Nat) (k : Blk) : Blk := fun L st h => match st with
  | .inl x :: .inl i :: .inr (some a) :: r => match nth h a with
    | some (.inl (t, n, f)) => match ts.contains t with
      | true => vp_in i n ∧ put h a (.inl (t, n, upd f i.toNatClampNeg (f_nar t x))) (fun h' => k L r h')
      | false => False
    | _ => False
  | _ => False
def o_alen (k : Blk) : Blk := fun L st h => match st with
  | .inr (some a) :: r => match nth h a with
    | some (.inl (t, n, _)) => match Nat.blt t 3 with
      | true => k L (.inl (Int32.ofNat n) :: r) h
      | false => False
    | _ => False
  | _ => False
def o_vret (Rv : Option PV → PH → Prop) : Blk := fun _ st h => match st with
  | [] => Rv none h
  | _ => False
def o_iret (Rv : Option PV → PH → Prop) : Blk := fun _ st h => match st with
  | [.inl v] => Rv (some (.inl v)) h
  | _ => False
def o_zret (Rv : Option PV → PH → Prop) : Blk := fun _ st h => match st with
  | [.inl v] => (v = 0 ∨ v = 1) ∧ Rv (some (.inl v)) h
  | _ => False
/-- a new array of N ints; a new object -/
def o_newa (t : Nat) (N : Nat) (k : Blk) : Blk := fun L st h => match st with
  | .inl n :: r => n = Int32.ofNat N ∧ (okL h.length (h.length + 1) L && okF h.length (h.length + 1) r && okH h.length (h.length + 1) h) = true ∧ snoc h (.inl (t, N, fun _ => 0)) (fun h' => k L (.inr (some h.length) :: r) h')
  | _ => False
def o_new (ci : Nat) (fs : List PV) (k : Blk) : Blk := fun L st h => (okL h.length (h.length + 1) L && okF h.length (h.length + 1) st && okH h.length (h.length + 1) h) = true ∧ snoc h (.inr (ci, fs)) (fun h' => k L (.inr (some h.length) :: st) h')
/-! links -/
def FL (own : String) (idx ci j : Nat) : Prop := ∃ (C : String) (T : u_T) (N : Nat), vwCl[ci]? = some (C, T, N) ∧ j < N ∧ (∀ w ∈ u_ws C T N, w ∈ TB) ∧ Cond.fieldLink own idx (T j).1 (T j).2.1 (T j).2.2.1 ∈ TB
def FN (own : String) (idx ci j : Nat) : Prop := ∃ (C host : String) (T : u_T) (N : Nat), vwCl[ci]? = some (C, T, N) ∧ j < N ∧ (∀ w ∈ u_ws C T N, w ∈ TB) ∧ Cond.fieldLinkNest own idx (T j).1 (T j).2.1 (T j).2.2.1 host ∈ NW
def tyk (ty : Nat) (t : FieldType) : Prop := (ty = 0 ∧ t = .int) ∨ (ty = 1 ∧ t = .boolean) ∨ (ty = 2 ∧ ((∃ n, t = .object n) ∨ ∃ u, t = .array u))
def FP (own : String) (idx ci j ty : Nat) (fin : Bool) : Prop := ∃ (C : String) (T : u_T) (N : Nat) (t0 : Nat → FieldType), vwCl[ci]? = some (C, T, N) ∧ j < N ∧ (∀ w ∈ u_ws C T N, w ∈ TB) ∧ Cond.fieldLink own idx (T j).1 (T j).2.1 (T j).2.2.1 ∈ TB ∧ (∀ k, k < N → parseFieldDescriptor (T k).2.2.1 = some (t0 k)) ∧ (∀ a, a < N → ∀ b, b < N → a ≠ b → (T a).2.1 ≠ (T b).2.1) ∧ (T j).2.2.2 = fin ∧ tyk ty (t0 j) ∧ (fin = true → (T j).1 = own)
theorem contains_mem {l : List Nat} {a : Nat} (h : l.contains a = true) : a ∈ l := by simpa using h
theorem fit_ok {ty : Nat} {t : FieldType} {v : PV} {ad : Nat → Nat} {K : Prop} (ht : tyk ty t) (h : fitK ty v K) : narrow t (cV ad v) = cV ad v ∧ fits t (cV ad v) = true ∧ K := by
  rcases ht with ⟨rfl, rfl⟩ | ⟨rfl, rfl⟩ | ⟨rfl, ht⟩
  · rcases v with x | r
    · exact ⟨rfl, rfl, h⟩
    · exact h.elim
  · rcases v with x | r
    · obtain ⟨hx, hK⟩ := (h : (x = 0 ∨ x = 1) ∧ K)
      rcases hx with rfl | rfl
      · exact ⟨(by decide +kernel : narrow .boolean (.int 0) = .int 0), (by decide +kernel : fits .boolean (.int 0) = true), hK⟩
      · exact ⟨(by decide +kernel : narrow .boolean (.int 1) = .int 1), (by decide +kernel : fits .boolean (.int 1) = true), hK⟩
    · exact h.elim
  · rcases v with x | r
    · exact h.elim
    · rcases ht with ⟨n, rfl⟩ | ⟨u, rfl⟩ <;> rcases r with _ | k <;> exact ⟨rfl, rfl, h⟩
section OPS
variable {p : Program} {l : Launch} {e : Env} {R : Room} {s : State} {m : MethodId} {args : Array Value} {below : List Frame} {meth : Method} {c : Code} {own nm : String} {cc : ByteArray} {nL : Nat} {rt : Option FieldType} {D : va_G} {cs : Nat → ClassId} {A : Nat → Prop} {n0 : Nat} {a0 : Nat → Nat} {Q : State → Prop} {pc cells slots : Nat} {k kt kf : Blk}
theorem ok_iconst (X : MC p s m args meth c own nm cc nL rt D cs A) {n : Int} {v : Int32} (hd : decode cc pc = .ok (.iconst n, 1)) (hv : Int32.ofInt n = v) (hk : BK p l e R s m args below meth c nL D cs A n0 a0 Q (pc + 1) cells slots k) : BK p l e R s m args below meth c nL D cs A n0 a0 Q pc cells slots (o_push (.inl v) k) :=
  fun ad ls L st h H locs hg hl hP hD hS hB => lv_iconst X.1 X.2.1 hd hv (hk ad ls L (.inl v :: st) h H locs hg hl hP hD hS hB)
theorem ok_bipush (X : MC p s m args meth c own nm cc nL rt D cs A) {n : Int} {v : Int32} (hd : decode cc pc = .ok (.bipush n, 2)) (hv : (Int8.ofInt n).toInt32 = v) (hk : BK p l e R s m args below meth c nL D cs A n0 a0 Q (pc + 2) cells slots k) : BK p l e R s m args below meth c nL D cs A n0 a0 Q pc cells slots (o_push (.inl v) k) :=
  fun ad ls L st h H locs hg hl hP hD hS hB => lv_bipush X.1 X.2.1 hd hv (hk ad ls L (.inl v :: st) h H locs hg hl hP hD hS hB)
theorem ok_sipush (X : MC p s m args meth c own nm cc nL rt D cs A) {n : Int} {v : Int32} (hd : decode cc pc = .ok (.sipush n, 3)) (hv : (Int16.ofInt n).toInt32 = v) (hk : BK p l e R s m args below meth c nL D cs A n0 a0 Q (pc + 3) cells slots k) : BK p l e R s m args below meth c nL D cs A n0 a0 Q pc cells slots (o_push (.inl v) k) :=
  fun ad ls L st h H locs hg hl hP hD hS hB => lv_sipush X.1 X.2.1 hd hv (hk ad ls L (.inl v :: st) h H locs hg hl hP hD hS hB)
theorem ok_ldc (X : MC p s m args meth c own nm cc nL rt D cs A) {idx : Nat} {v : Int32} (hd : decode cc pc = .ok (.ldc idx, 2)) (hw : Cond.constant own idx v ∈ TB) (hk : BK p l e R s m args below meth c nL D cs A n0 a0 Q (pc + 2) cells slots k) : BK p l e R s m args below meth c nL D cs A n0 a0 Q pc cells slots (o_push (.inl v) k) :=
  fun ad ls L st h H locs hg hl hP hD hS hB => lv_ldc X.1 X.2.1 X.2.2.2.1 (X.2.2.2.2.1 _ hw) hd (hk ad ls L (.inl v :: st) h H locs hg hl hP hD hS hB)
theorem ok_ldcw (X : MC p s m args meth c own nm cc nL rt D cs A) {idx : Nat} {v : Int32} (hd : decode cc pc = .ok (.ldc_w idx, 3)) (hw : Cond.constant own idx v ∈ TB) (hk : BK p l e R s m args below meth c nL D cs A n0 a0 Q (pc + 3) cells slots k) : BK p l e R s m args below meth c nL D cs A n0 a0 Q pc cells slots (o_push (.inl v) k) :=
  fun ad ls L st h H locs hg hl hP hD hS hB => lv_ldcw X.1 X.2.1 X.2.2.2.1 (X.2.2.2.2.1 _ hw) hd (hk ad ls L (.inl v :: st) h H locs hg hl hP hD hS hB)
theorem ok_iload_n (X : MC p s m args meth c own nm cc nL rt D cs A) {q : Fin 4} {i : Nat} (hd : decode cc pc = .ok (.iload_n q, 1)) (hi : (q : Nat) = i) (hk : BK p l e R s m args below meth c nL D cs A n0 a0 Q (pc + 1) cells slots k) : BK p l e R s m args below meth c nL D cs A n0 a0 Q pc cells slots (o_iload i k) := by
  intro ad ls L st h H locs hg hl hP hD hS hB
  unfold o_iload at hB
  split at hB
  · rename_i x hx
    exact lv_iload_n X.1 X.2.1 hd hi (hl.2.2.2 i _ hx) (hk ad ls L (.inl x :: st) h H locs hg hl hP hD hS hB)
  · exact hB.elim
theorem ok_iload (X : MC p s m args meth c own nm cc nL rt D cs A) {i : Nat} (hd : decode cc pc = .ok (.iload i, 2)) (hk : BK p l e R s m args below meth c nL D cs A n0 a0 Q (pc + 2) cells slots k) : BK p l e R s m args below meth c nL D cs A n0 a0 Q pc cells slots (o_iload i k) := by
  intro ad ls L st h H locs hg hl hP hD hS hB
  unfold o_iload at hB
  split at hB
  · rename_i x hx
    exact lv_iload X.1 X.2.1 hd (hl.2.2.2 i _ hx) (hk ad ls L (.inl x :: st) h H locs hg hl hP hD hS hB)
  · exact hB.elim
theorem ok_aload_n (X : MC p s m args meth c own nm cc nL rt D cs A) {q : Fin 4} {i : Nat} (hd : decode cc pc = .ok (.aload_n q, 1)) (hi : (q : Nat) = i) (hk : BK p l e R s m args below meth c nL D cs A n0 a0 Q (pc + 1) cells slots k) : BK p l e R s m args below meth c nL D cs A n0 a0 Q pc cells slots (o_aload i k) := by
  intro ad ls L st h H locs hg hl hP hD hS hB
  unfold o_aload at hB
  split at hB
  · rename_i r hx
    cases r with
    | none => exact lv_aload_nN X.1 X.2.1 hd hi (hl.2.2.2 i _ hx) (hk ad ls L (.inr none :: st) h H locs hg hl hP hD hS hB)
    | some a => exact lv_aload_n X.1 X.2.1 hd hi (hl.2.2.2 i _ hx) (hk ad ls L (.inr (some a) :: st) h H locs hg hl hP hD hS hB)
  · exact hB.elim
theorem ok_aload (X : MC p s m args meth c own nm cc nL rt D cs A) {i : Nat} (hd : decode cc pc = .ok (.aload i, 2)) (hk : BK p l e R s m args below meth c nL D cs A n0 a0 Q (pc + 2) cells slots k) : BK p l e R s m args below meth c nL D cs A n0 a0 Q pc cells slots (o_aload i k) := by
  intro ad ls L st h H locs hg hl hP hD hS hB
  unfold o_aload at hB
  split at hB
  · rename_i r hx
    cases r with
    | none => exact lv_aloadN X.1 X.2.1 hd (hl.2.2.2 i _ hx) (hk ad ls L (.inr none :: st) h H locs hg hl hP hD hS hB)
    | some a => exact lv_aload X.1 X.2.1 hd (hl.2.2.2 i _ hx) (hk ad ls L (.inr (some a) :: st) h H locs hg hl hP hD hS hB)
  · exact hB.elim
theorem ok_istore_n (X : MC p s m args meth c own nm cc nL rt D cs A) {q : Fin 4} {i : Nat} (hd : decode cc pc = .ok (.istore_n q, 1)) (hi : (q : Nat) = i) (hk : BK p l e R s m args below meth c nL D cs A n0 a0 Q (pc + 1) cells slots k) : BK p l e R s m args below meth c nL D cs A n0 a0 Q pc cells slots (o_istore i k) := by
  intro ad ls L st h H locs hg hl hP hD hS hB
  unfold o_istore at hB
  split at hB
  · rename_i x r
    obtain ⟨h1, h2⟩ := put_spec _ _ _ _ hB
    rw [hl.2.1] at h1
    exact lv_istore_n X.1 X.2.1 hd hi hl.has h1 rfl (fun ls' hl' => hk ad ls' _ r h H locs hg (hl.put (v := .inl x) h1 hl') hP hD hS h2)
  · exact hB.elim
theorem ok_istore (X : MC p s m args meth c own nm cc nL rt D cs A) {i : Nat} (hd : decode cc pc = .ok (.istore i, 2)) (hk : BK p l e R s m args below meth c nL D cs A n0 a0 Q (pc + 2) cells slots k) : BK p l e R s m args below meth c nL D cs A n0 a0 Q pc cells slots (o_istore i k) := by
  intro ad ls L st h H locs hg hl hP hD hS hB
  unfold o_istore at hB
  split at hB
  · rename_i x r
    obtain ⟨h1, h2⟩ := put_spec _ _ _ _ hB
    rw [hl.2.1] at h1
    exact lv_istore X.1 X.2.1 hd hl.has h1 rfl (fun ls' hl' => hk ad ls' _ r h H locs hg (hl.put (v := .inl x) h1 hl') hP hD hS h2)
  · exact hB.elim
theorem ok_astore_n (X : MC p s m args meth c own nm cc nL rt D cs A) {q : Fin 4} {i : Nat} (hd : decode cc pc = .ok (.astore_n q, 1)) (hi : (q : Nat) = i) (hk : BK p l e R s m args below meth c nL D cs A n0 a0 Q (pc + 1) cells slots k) : BK p l e R s m args below meth c nL D cs A n0 a0 Q pc cells slots (o_astore i k) := by
  intro ad ls L st h H locs hg hl hP hD hS hB
  unfold o_astore at hB
  split at hB
  · rename_i x r
    obtain ⟨h1, h2⟩ := put_spec _ _ _ _ hB
    rw [hl.2.1] at h1
    cases x with
    | none => exact lv_astore_nN X.1 X.2.1 hd hi hl.has h1 rfl (fun ls' hl' => hk ad ls' _ r h H locs hg (hl.put (v := .inr none) h1 hl') hP hD hS h2)
    | some x => exact lv_astore_n X.1 X.2.1 hd hi hl.has h1 rfl (fun ls' hl' => hk ad ls' _ r h H locs hg (hl.put (v := .inr (some x)) h1 hl') hP hD hS h2)
  · exact hB.elim
theorem ok_iinc (X : MC p s m args meth c own nm cc nL rt D cs A) {i : Nat} {n : Int} {v : Int32} (hd : decode cc pc = .ok (.iinc i n, 3)) (hv : Int32.ofInt n = v) (hk : BK p l e R s m args below meth c nL D cs A n0 a0 Q (pc + 3) cells slots k) : BK p l e R s m args below meth c nL D cs A n0 a0 Q pc cells slots (o_iinc i v k) := by
  intro ad ls L st h H locs hg hl hP hD hS hB
  unfold o_iinc at hB
  split at hB
  · rename_i x hx
    obtain ⟨h1, h2⟩ := put_spec _ _ _ _ hB
    rw [hl.2.1] at h1
    have hin := prs_in ad L 0 i (.inl x) hx
    rw [Nat.zero_add] at hin
    obtain ⟨kk, hkk⟩ := List.getElem?_of_mem hin
    exact lv_iinc X.1 X.2.1 hd hl.has hkk (by rw [hv]) h1 rfl (fun ls' hl' => hk ad ls' _ st h H locs hg (hl.put (v := .inl (x + v)) h1 hl') hP hD hS h2)
  · exact hB.elim
theorem ok_iadd (X : MC p s m args meth c own nm cc nL rt D cs A) (hd : decode cc pc = .ok (.iadd, 1)) (hk : BK p l e R s m args below meth c nL D cs A n0 a0 Q (pc + 1) cells slots k) : BK p l e R s m args below meth c nL D cs A n0 a0 Q pc cells slots (o_bin f_add k) := by
  intro ad ls L st h H locs hg hl hP hD hS hB
  unfold o_bin at hB
  split at hB
  · rename_i y x r
    exact lv_iadd X.1 X.2.1 hd (hk ad ls L (.inl (f_add x y) :: r) h H locs hg hl hP hD hS hB)
  · exact hB.elim
theorem ok_isub (X : MC p s m args meth c own nm cc nL rt D cs A) (hd : decode cc pc = .ok (.isub, 1)) (hk : BK p l e R s m args below meth c nL D cs A n0 a0 Q (pc + 1) cells slots k) : BK p l e R s m args below meth c nL D cs A n0 a0 Q pc cells slots (o_bin f_sub k) := by
  intro ad ls L st h H locs hg hl hP hD hS hB
  unfold o_bin at hB
  split at hB
  · rename_i y x r
    exact lv_isub X.1 X.2.1 hd (hk ad ls L (.inl (f_sub x y) :: r) h H locs hg hl hP hD hS hB)
  · exact hB.elim
theorem ok_imul (X : MC p s m args meth c own nm cc nL rt D cs A) (hd : decode cc pc = .ok (.imul, 1)) (hk : BK p l e R s m args below meth c nL D cs A n0 a0 Q (pc + 1) cells slots k) : BK p l e R s m args below meth c nL D cs A n0 a0 Q pc cells slots (o_bin f_mul k) := by
  intro ad ls L st h H locs hg hl hP hD hS hB
  unfold o_bin at hB
  split at hB
  · rename_i y x r
    exact lv_imul X.1 X.2.1 hd (hk ad ls L (.inl (f_mul x y) :: r) h H locs hg hl hP hD hS hB)
  · exact hB.elim
theorem ok_iand (X : MC p s m args meth c own nm cc nL rt D cs A) (hd : decode cc pc = .ok (.iand, 1)) (hk : BK p l e R s m args below meth c nL D cs A n0 a0 Q (pc + 1) cells slots k) : BK p l e R s m args below meth c nL D cs A n0 a0 Q pc cells slots (o_bin f_and k) := by
  intro ad ls L st h H locs hg hl hP hD hS hB
  unfold o_bin at hB
  split at hB
  · rename_i y x r
    exact lv_iand X.1 X.2.1 hd (hk ad ls L (.inl (f_and x y) :: r) h H locs hg hl hP hD hS hB)
  · exact hB.elim
theorem ok_ior (X : MC p s m args meth c own nm cc nL rt D cs A) (hd : decode cc pc = .ok (.ior, 1)) (hk : BK p l e R s m args below meth c nL D cs A n0 a0 Q (pc + 1) cells slots k) : BK p l e R s m args below meth c nL D cs A n0 a0 Q pc cells slots (o_bin f_or k) := by
  intro ad ls L st h H locs hg hl hP hD hS hB
  unfold o_bin at hB
  split at hB
  · rename_i y x r
    exact lv_ior X.1 X.2.1 hd (hk ad ls L (.inl (f_or x y) :: r) h H locs hg hl hP hD hS hB)
  · exact hB.elim
theorem ok_ixor (X : MC p s m args meth c own nm cc nL rt D cs A) (hd : decode cc pc = .ok (.ixor, 1)) (hk : BK p l e R s m args below meth c nL D cs A n0 a0 Q (pc + 1) cells slots k) : BK p l e R s m args below meth c nL D cs A n0 a0 Q pc cells slots (o_bin f_xor k) := by
  intro ad ls L st h H locs hg hl hP hD hS hB
  unfold o_bin at hB
  split at hB
  · rename_i y x r
    exact lv_ixor X.1 X.2.1 hd (hk ad ls L (.inl (f_xor x y) :: r) h H locs hg hl hP hD hS hB)
  · exact hB.elim
theorem ok_ishl (X : MC p s m args meth c own nm cc nL rt D cs A) (hd : decode cc pc = .ok (.ishl, 1)) (hk : BK p l e R s m args below meth c nL D cs A n0 a0 Q (pc + 1) cells slots k) : BK p l e R s m args below meth c nL D cs A n0 a0 Q pc cells slots (o_bin f_shl k) := by
  intro ad ls L st h H locs hg hl hP hD hS hB
  unfold o_bin at hB
  split at hB
  · rename_i y x r
    exact lv_ishl X.1 X.2.1 hd (hk ad ls L (.inl (f_shl x y) :: r) h H locs hg hl hP hD hS hB)
  · exact hB.elim
theorem ok_ishr (X : MC p s m args meth c own nm cc nL rt D cs A) (hd : decode cc pc = .ok (.ishr, 1)) (hk : BK p l e R s m args below meth c nL D cs A n0 a0 Q (pc + 1) cells slots k) : BK p l e R s m args below meth c nL D cs A n0 a0 Q pc cells slots (o_bin f_shr k) := by
  intro ad ls L st h H locs hg hl hP hD hS hB
  unfold o_bin at hB
  split at hB
  · rename_i y x r
    exact lv_ishr X.1 X.2.1 hd (hk ad ls L (.inl (f_shr x y) :: r) h H locs hg hl hP hD hS hB)
  · exact hB.elim
theorem ok_iushr (X : MC p s m args meth c own nm cc nL rt D cs A) (hd : decode cc pc = .ok (.iushr, 1)) (hk : BK p l e R s m args below meth c nL D cs A n0 a0 Q (pc + 1) cells slots k) : BK p l e R s m args below meth c nL D cs A n0 a0 Q pc cells slots (o_bin f_ushr k) := by
  intro ad ls L st h H locs hg hl hP hD hS hB
  unfold o_bin at hB
  split at hB
  · rename_i y x r
    exact lv_iushr X.1 X.2.1 hd rfl (hk ad ls L (.inl (f_ushr x y) :: r) h H locs hg hl hP hD hS hB)
  · exact hB.elim
theorem ok_idiv (X : MC p s m args meth c own nm cc nL rt D cs A) (hd : decode cc pc = .ok (.idiv, 1)) (hk : BK p l e R s m args below meth c nL D cs A n0 a0 Q (pc + 1) cells slots k) : BK p l e R s m args below meth c nL D cs A n0 a0 Q pc cells slots (o_div k) := by
  intro ad ls L st h H locs hg hl hP hD hS hB
  unfold o_div at hB
  split at hB
  · rename_i y x r
    exact lv_idiv X.1 X.2.1 hd hB.1 (hk ad ls L (.inl (x / y) :: r) h H locs hg hl hP hD hS hB.2)
  · exact hB.elim
theorem ok_irem (X : MC p s m args meth c own nm cc nL rt D cs A) (hd : decode cc pc = .ok (.irem, 1)) (hk : BK p l e R s m args below meth c nL D cs A n0 a0 Q (pc + 1) cells slots k) : BK p l e R s m args below meth c nL D cs A n0 a0 Q pc cells slots (o_rem k) := by
  intro ad ls L st h H locs hg hl hP hD hS hB
  unfold o_rem at hB
  split at hB
  · rename_i y x r
    exact lv_irem X.1 X.2.1 hd hB.1 (hk ad ls L (.inl (x - x / y * y) :: r) h H locs hg hl hP hD hS hB.2)
  · exact hB.elim
theorem ok_ineg (X : MC p s m args meth c own nm cc nL rt D cs A) (hd : decode cc pc = .ok (.ineg, 1)) (hk : BK p l e R s m args below meth c nL D cs A n0 a0 Q (pc + 1) cells slots k) : BK p l e R s m args below meth c nL D cs A n0 a0 Q pc cells slots (o_un f_neg k) := by
  intro ad ls L st h H locs hg hl hP hD hS hB
  unfold o_un at hB
  split at hB
  · rename_i x r
    exact lv_ineg X.1 X.2.1 hd (hk ad ls L (.inl (f_neg x) :: r) h H locs hg hl hP hD hS hB)
  · exact hB.elim
theorem ok_i2b (X : MC p s m args meth c own nm cc nL rt D cs A) (hd : decode cc pc = .ok (.i2b, 1)) (hk : BK p l e R s m args below meth c nL D cs A n0 a0 Q (pc + 1) cells slots k) : BK p l e R s m args below meth c nL D cs A n0 a0 Q pc cells slots (o_un f_i2b k) := by
  intro ad ls L st h H locs hg hl hP hD hS hB
  unfold o_un at hB
  split at hB
  · rename_i x r
    exact lv_i2b X.1 X.2.1 hd rfl (hk ad ls L (.inl (f_i2b x) :: r) h H locs hg hl hP hD hS hB)
  · exact hB.elim
theorem ok_i2c (X : MC p s m args meth c own nm cc nL rt D cs A) (hd : decode cc pc = .ok (.i2c, 1)) (hk : BK p l e R s m args below meth c nL D cs A n0 a0 Q (pc + 1) cells slots k) : BK p l e R s m args below meth c nL D cs A n0 a0 Q pc cells slots (o_un f_i2c k) := by
  intro ad ls L st h H locs hg hl hP hD hS hB
  unfold o_un at hB
  split at hB
  · rename_i x r
    exact lv_i2c X.1 X.2.1 hd rfl (hk ad ls L (.inl (f_i2c x) :: r) h H locs hg hl hP hD hS hB)
  · exact hB.elim
theorem ok_icmp_eq (X : MC p s m args meth c own nm cc nL rt D cs A) {off : Int} {tgt : Nat} (hd : decode cc pc = .ok (.if_icmp .eq off, 3)) (ht : (pc : Int) + off = (tgt : Int)) (h1 : BK p l e R s m args below meth c nL D cs A n0 a0 Q tgt cells slots kt) (h2 : BK p l e R s m args below meth c nL D cs A n0 a0 Q (pc + 3) cells slots kf) : BK p l e R s m args below meth c nL D cs A n0 a0 Q pc cells slots (o_icmp c_eq kt kf) := by
  intro ad ls L st h H locs hg hl hP hD hS hB
  unfold o_icmp at hB
  split at hB
  · rename_i y x r
    exact lv_icmp_eq X.1 X.2.1 hd ht (fun q => h1 ad ls L r h H locs hg hl hP hD hS (hB.1 q)) (fun q => h2 ad ls L r h H locs hg hl hP hD hS (hB.2 q))
  · exact hB.elim
theorem ok_if_eq (X : MC p s m args meth c own nm cc nL rt D cs A) {off : Int} {tgt : Nat} (hd : decode cc pc = .ok (.ifCond .eq off, 3)) (ht : (pc : Int) + off = (tgt : Int)) (h1 : BK p l e R s m args below meth c nL D cs A n0 a0 Q tgt cells slots kt) (h2 : BK p l e R s m args below meth c nL D cs A n0 a0 Q (pc + 3) cells slots kf) : BK p l e R s m args below meth c nL D cs A n0 a0 Q pc cells slots (o_if (fun x => c_eq x 0) kt kf) := by
  intro ad ls L st h H locs hg hl hP hD hS hB
  unfold o_if at hB
  split at hB
  · rename_i x r
    exact lv_if_eq X.1 X.2.1 hd ht (fun q => h1 ad ls L r h H locs hg hl hP hD hS (hB.1 q)) (fun q => h2 ad ls L r h H locs hg hl hP hD hS (hB.2 q))
  · exact hB.elim
theorem ok_icmp_lt (X : MC p s m args meth c own nm cc nL rt D cs A) {off : Int} {tgt : Nat} (hd : decode cc pc = .ok (.if_icmp .lt off, 3)) (ht : (pc : Int) + off = (tgt : Int)) (h1 : BK p l e R s m args below meth c nL D cs A n0 a0 Q tgt cells slots kt) (h2 : BK p l e R s m args below meth c nL D cs A n0 a0 Q (pc + 3) cells slots kf) : BK p l e R s m args below meth c nL D cs A n0 a0 Q pc cells slots (o_icmp c_lt kt kf) := by
  intro ad ls L st h H locs hg hl hP hD hS hB
  unfold o_icmp at hB
  split at hB
  · rename_i y x r
    exact lv_icmp_lt X.1 X.2.1 hd ht (fun q => h1 ad ls L r h H locs hg hl hP hD hS (hB.1 q)) (fun q => h2 ad ls L r h H locs hg hl hP hD hS (hB.2 q))
  · exact hB.elim
theorem ok_if_lt (X : MC p s m args meth c own nm cc nL rt D cs A) {off : Int} {tgt : Nat} (hd : decode cc pc = .ok (.ifCond .lt off, 3)) (ht : (pc : Int) + off = (tgt : Int)) (h1 : BK p l e R s m args below meth c nL D cs A n0 a0 Q tgt cells slots kt) (h2 : BK p l e R s m args below meth c nL D cs A n0 a0 Q (pc + 3) cells slots kf) : BK p l e R s m args below meth c nL D cs A n0 a0 Q pc cells slots (o_if (fun x => c_lt x 0) kt kf) := by
  intro ad ls L st h H locs hg hl hP hD hS hB
  unfold o_if at hB
  split at hB
  · rename_i x r
    exact lv_if_lt X.1 X.2.1 hd ht (fun q => h1 ad ls L r h H locs hg hl hP hD hS (hB.1 q)) (fun q => h2 ad ls L r h H locs hg hl hP hD hS (hB.2 q))
  · exact hB.elim
theorem ok_icmp_ge (X : MC p s m args meth c own nm cc nL rt D cs A) {off : Int} {tgt : Nat} (hd : decode cc pc = .ok (.if_icmp .ge off, 3)) (ht : (pc : Int) + off = (tgt : Int)) (h1 : BK p l e R s m args below meth c nL D cs A n0 a0 Q tgt cells slots kt) (h2 : BK p l e R s m args below meth c nL D cs A n0 a0 Q (pc + 3) cells slots kf) : BK p l e R s m args below meth c nL D cs A n0 a0 Q pc cells slots (o_icmp c_ge kt kf) := by
  intro ad ls L st h H locs hg hl hP hD hS hB
  unfold o_icmp at hB
  split at hB
  · rename_i y x r
    exact lv_icmp_ge X.1 X.2.1 hd ht (fun q => h1 ad ls L r h H locs hg hl hP hD hS (hB.1 q)) (fun q => h2 ad ls L r h H locs hg hl hP hD hS (hB.2 q))
  · exact hB.elim
theorem ok_if_ge (X : MC p s m args meth c own nm cc nL rt D cs A) {off : Int} {tgt : Nat} (hd : decode cc pc = .ok (.ifCond .ge off, 3)) (ht : (pc : Int) + off = (tgt : Int)) (h1 : BK p l e R s m args below meth c nL D cs A n0 a0 Q tgt cells slots kt) (h2 : BK p l e R s m args below meth c nL D cs A n0 a0 Q (pc + 3) cells slots kf) : BK p l e R s m args below meth c nL D cs A n0 a0 Q pc cells slots (o_if (fun x => c_ge x 0) kt kf) := by
  intro ad ls L st h H locs hg hl hP hD hS hB
  unfold o_if at hB
  split at hB
  · rename_i x r
    exact lv_if_ge X.1 X.2.1 hd ht (fun q => h1 ad ls L r h H locs hg hl hP hD hS (hB.1 q)) (fun q => h2 ad ls L r h H locs hg hl hP hD hS (hB.2 q))
  · exact hB.elim
theorem ok_icmp_gt (X : MC p s m args meth c own nm cc nL rt D cs A) {off : Int} {tgt : Nat} (hd : decode cc pc = .ok (.if_icmp .gt off, 3)) (ht : (pc : Int) + off = (tgt : Int)) (h1 : BK p l e R s m args below meth c nL D cs A n0 a0 Q tgt cells slots kt) (h2 : BK p l e R s m args below meth c nL D cs A n0 a0 Q (pc + 3) cells slots kf) : BK p l e R s m args below meth c nL D cs A n0 a0 Q pc cells slots (o_icmp c_gt kt kf) := by
  intro ad ls L st h H locs hg hl hP hD hS hB
  unfold o_icmp at hB
  split at hB
  · rename_i y x r
    exact lv_icmp_gt X.1 X.2.1 hd ht (fun q => h1 ad ls L r h H locs hg hl hP hD hS (hB.1 q)) (fun q => h2 ad ls L r h H locs hg hl hP hD hS (hB.2 q))
  · exact hB.elim
theorem ok_if_gt (X : MC p s m args meth c own nm cc nL rt D cs A) {off : Int} {tgt : Nat} (hd : decode cc pc = .ok (.ifCond .gt off, 3)) (ht : (pc : Int) + off = (tgt : Int)) (h1 : BK p l e R s m args below meth c nL D cs A n0 a0 Q tgt cells slots kt) (h2 : BK p l e R s m args below meth c nL D cs A n0 a0 Q (pc + 3) cells slots kf) : BK p l e R s m args below meth c nL D cs A n0 a0 Q pc cells slots (o_if (fun x => c_gt x 0) kt kf) := by
  intro ad ls L st h H locs hg hl hP hD hS hB
  unfold o_if at hB
  split at hB
  · rename_i x r
    exact lv_if_gt X.1 X.2.1 hd ht (fun q => h1 ad ls L r h H locs hg hl hP hD hS (hB.1 q)) (fun q => h2 ad ls L r h H locs hg hl hP hD hS (hB.2 q))
  · exact hB.elim
theorem ok_icmp_le (X : MC p s m args meth c own nm cc nL rt D cs A) {off : Int} {tgt : Nat} (hd : decode cc pc = .ok (.if_icmp .le off, 3)) (ht : (pc : Int) + off = (tgt : Int)) (h1 : BK p l e R s m args below meth c nL D cs A n0 a0 Q tgt cells slots kt) (h2 : BK p l e R s m args below meth c nL D cs A n0 a0 Q (pc + 3) cells slots kf) : BK p l e R s m args below meth c nL D cs A n0 a0 Q pc cells slots (o_icmp c_le kt kf) := by
  intro ad ls L st h H locs hg hl hP hD hS hB
  unfold o_icmp at hB
  split at hB
  · rename_i y x r
    exact lv_icmp_le X.1 X.2.1 hd ht (fun q => h1 ad ls L r h H locs hg hl hP hD hS (hB.1 q)) (fun q => h2 ad ls L r h H locs hg hl hP hD hS (hB.2 q))
  · exact hB.elim
theorem ok_if_le (X : MC p s m args meth c own nm cc nL rt D cs A) {off : Int} {tgt : Nat} (hd : decode cc pc = .ok (.ifCond .le off, 3)) (ht : (pc : Int) + off = (tgt : Int)) (h1 : BK p l e R s m args below meth c nL D cs A n0 a0 Q tgt cells slots kt) (h2 : BK p l e R s m args below meth c nL D cs A n0 a0 Q (pc + 3) cells slots kf) : BK p l e R s m args below meth c nL D cs A n0 a0 Q pc cells slots (o_if (fun x => c_le x 0) kt kf) := by
  intro ad ls L st h H locs hg hl hP hD hS hB
  unfold o_if at hB
  split at hB
  · rename_i x r
    exact lv_if_le X.1 X.2.1 hd ht (fun q => h1 ad ls L r h H locs hg hl hP hD hS (hB.1 q)) (fun q => h2 ad ls L r h H locs hg hl hP hD hS (hB.2 q))
  · exact hB.elim
theorem ok_icmp_ne (X : MC p s m args meth c own nm cc nL rt D cs A) {off : Int} {tgt : Nat} (hd : decode cc pc = .ok (.if_icmp .ne off, 3)) (ht : (pc : Int) + off = (tgt : Int)) (h1 : BK p l e R s m args below meth c nL D cs A n0 a0 Q tgt cells slots kt) (h2 : BK p l e R s m args below meth c nL D cs A n0 a0 Q (pc + 3) cells slots kf) : BK p l e R s m args below meth c nL D cs A n0 a0 Q pc cells slots (o_icmp c_eq kf kt) := by
  intro ad ls L st h H locs hg hl hP hD hS hB
  unfold o_icmp at hB
  split at hB
  · rename_i y x r
    exact lv_icmp_ne X.1 X.2.1 hd ht (fun q => h1 ad ls L r h H locs hg hl hP hD hS (hB.2 q)) (fun q => h2 ad ls L r h H locs hg hl hP hD hS (hB.1 q))
  · exact hB.elim
theorem ok_if_ne (X : MC p s m args meth c own nm cc nL rt D cs A) {off : Int} {tgt : Nat} (hd : decode cc pc = .ok (.ifCond .ne off, 3)) (ht : (pc : Int) + off = (tgt : Int)) (h1 : BK p l e R s m args below meth c nL D cs A n0 a0 Q tgt cells slots kt) (h2 : BK p l e R s m args below meth c nL D cs A n0 a0 Q (pc + 3) cells slots kf) : BK p l e R s m args below meth c nL D cs A n0 a0 Q pc cells slots (o_if (fun x => c_eq x 0) kf kt) := by
  intro ad ls L st h H locs hg hl hP hD hS hB
  unfold o_if at hB
  split at hB
  · rename_i x r
    exact lv_if_ne X.1 X.2.1 hd ht (fun q => h1 ad ls L r h H locs hg hl hP hD hS (hB.2 q)) (fun q => h2 ad ls L r h H locs hg hl hP hD hS (hB.1 q))
  · exact hB.elim
theorem ok_goto (X : MC p s m args meth c own nm cc nL rt D cs A) {off : Int} {tgt : Nat} (hd : decode cc pc = .ok (.goto off, 3)) (ht : (pc : Int) + off = (tgt : Int)) (hk : BK p l e R s m args below meth c nL D cs A n0 a0 Q tgt cells slots k) : BK p l e R s m args below meth c nL D cs A n0 a0 Q pc cells slots k :=
  fun ad ls L st h H locs hg hl hP hD hS hB => lv_goto X.1 X.2.1 hd ht (hk ad ls L st h H locs hg hl hP hD hS hB)
theorem ok_dup (X : MC p s m args meth c own nm cc nL rt D cs A) (hd : decode cc pc = .ok (.dup, 1)) (hk : BK p l e R s m args below meth c nL D cs A n0 a0 Q (pc + 1) cells slots k) : BK p l e R s m args below meth c nL D cs A n0 a0 Q pc cells slots (o_dup k) := by
  intro ad ls L st h H locs hg hl hP hD hS hB
  unfold o_dup at hB
  split at hB
  · rename_i v r
    exact lv_dup X.1 X.2.1 hd (cV_cat ad v) (hk ad ls L (v :: v :: r) h H locs hg hl hP hD hS hB)
  · exact hB.elim
theorem ok_dup2 (X : MC p s m args meth c own nm cc nL rt D cs A) (hd : decode cc pc = .ok (.dup2, 1)) (hk : BK p l e R s m args below meth c nL D cs A n0 a0 Q (pc + 1) cells slots k) : BK p l e R s m args below meth c nL D cs A n0 a0 Q pc cells slots (o_dup2 k) := by
  intro ad ls L st h H locs hg hl hP hD hS hB
  unfold o_dup2 at hB
  split at hB
  · rename_i v w r
    exact lv_dup2_11 X.1 X.2.1 hd (cV_cat ad v) (cV_cat ad w) (hk ad ls L (v :: w :: v :: w :: r) h H locs hg hl hP hD hS hB)
  · exact hB.elim
theorem ok_dupx1 (X : MC p s m args meth c own nm cc nL rt D cs A) (hd : decode cc pc = .ok (.dup_x1, 1)) (hk : BK p l e R s m args below meth c nL D cs A n0 a0 Q (pc + 1) cells slots k) : BK p l e R s m args below meth c nL D cs A n0 a0 Q pc cells slots (o_dupx1 k) := by
  intro ad ls L st h H locs hg hl hP hD hS hB
  unfold o_dupx1 at hB
  split at hB
  · rename_i v w r
    exact lv_dup_x1 X.1 X.2.1 hd (cV_cat ad v) (cV_cat ad w) (hk ad ls L (v :: w :: v :: r) h H locs hg hl hP hD hS hB)
  · exact hB.elim
theorem ok_pop (X : MC p s m args meth c own nm cc nL rt D cs A) (hd : decode cc pc = .ok (.pop, 1)) (hk : BK p l e R s m args below meth c nL D cs A n0 a0 Q (pc + 1) cells slots k) : BK p l e R s m args below meth c nL D cs A n0 a0 Q pc cells slots (o_pop k) := by
  intro ad ls L st h H locs hg hl hP hD hS hB
  unfold o_pop at hB
  split at hB
  · rename_i v r
    exact lv_pop X.1 X.2.1 hd (cV_cat ad v) (hk ad ls L r h H locs hg hl hP hD hS hB)
  · exact hB.elim
theorem ok_getf (X : MC p s m args meth c own nm cc nL rt D cs A) {idx j : Nat} {cis : List Nat} (hd : decode cc pc = .ok (.getfield idx, 3)) (hf : ∀ ci ∈ cis, FL own idx ci j) (hk : BK p l e R s m args below meth c nL D cs A n0 a0 Q (pc + 3) cells slots k) : BK p l e R s m args below meth c nL D cs A n0 a0 Q pc cells slots (o_getf cis j k) := by
  intro ad ls L st h H locs hg hl hP hD hS hB
  unfold o_getf at hB
  split at hB
  · rename_i a r
    split at hB
    · rename_i ci fs he
      split at hB
      · rename_i hc
        split at hB
        · rename_i v hv
          obtain ⟨C, T, N, h1, h2, h3, h4⟩ := hf ci (contains_mem hc)
          rw [nth_eq] at he hv
          exact va_get (T := T) (C := C) (N := N) (ref := (T j).1) X.1 X.2.1 X.2.2.2.2.1 h3 X.2.2.2.1 X.2.2.2.2.2.2.1 hP a (cW_get he) h1 j h2 (X.2.2.2.2.1 _ h4) (fun _ z => z) (v := cV ad v) (by rw [List.getElem?_map, hv]; rfl) hd (hk ad ls L (v :: r) h H locs hg hl hP hD hS hB)
        · exact hB.elim
      · exact hB.elim
    · exact hB.elim
  · exact hB.elim
theorem ok_getfN (X : MC p s m args meth c own nm cc nL rt D cs A) {idx j : Nat} {cis : List Nat} (hd : decode cc pc = .ok (.getfield idx, 3)) (hf : ∀ ci ∈ cis, FN own idx ci j) (hk : BK p l e R s m args below meth c nL D cs A n0 a0 Q (pc + 3) cells slots k) : BK p l e R s m args below meth c nL D cs A n0 a0 Q pc cells slots (o_getf cis j k) := by
  intro ad ls L st h H locs hg hl hP hD hS hB
  unfold o_getf at hB
  split at hB
  · rename_i a r
    split at hB
    · rename_i ci fs he
      split at hB
      · rename_i hc
        split at hB
        · rename_i v hv
          obtain ⟨C, host, T, N, h1, h2, h3, h4⟩ := hf ci (contains_mem hc)
          rw [nth_eq] at he hv
          exact va_getN (T := T) (C := C) (N := N) (ref := (T j).1) (host := host) X.1 X.2.1 X.2.2.2.2.1 h3 X.2.2.2.1 X.2.2.2.2.2.2.1 hP a (cW_get he) h1 j h2 (va_Nw.use rfl (X.2.2.2.2.2.1 _ h4)) (fun _ z => z) (v := cV ad v) (by rw [List.getElem?_map, hv]; rfl) hd (hk ad ls L (v :: r) h H locs hg hl hP hD hS hB)
        · exact hB.elim
      · exact hB.elim
    · exact hB.elim
  · exact hB.elim
theorem map_set_cV (ad : Nat → Nat) (fs : List PV) (j : Nat) (v : PV) : (fs.set j v).map (cV ad) = (fs.map (cV ad)).set j (cV ad v) := List.map_set
theorem ok_putf (X : MC p s m args meth c own nm cc nL rt D cs A) {idx j ty : Nat} {cis : List Nat} (hd : decode cc pc = .ok (.putfield idx, 3)) (hf : ∀ ci ∈ cis, FP own idx ci j ty false) (hk : BK p l e R s m args below meth c nL D cs A n0 a0 Q (pc + 3) cells slots k) : BK p l e R s m args below meth c nL D cs A n0 a0 Q pc cells slots (o_putf cis j ty k) := by
  intro ad ls L st h H locs hg hl hP hD hS hB
  unfold o_putf at hB
  split at hB
  · rename_i v a r
    split at hB
    · rename_i ci fs he
      split at hB
      · rename_i hc
        obtain ⟨C, T, N, t0, h1, h2, h3, h4, h5, h6, h7, h8, -⟩ := hf ci (contains_mem hc)
        rw [nth_eq] at he
        obtain ⟨q1, q2, q3⟩ := fit_ok (ad := ad) h8 hB
        obtain ⟨q4, q5⟩ := put_spec _ _ _ _ q3
        obtain ⟨q6, q7⟩ := put_spec _ _ _ _ q5
        refine va_put (T := T) (C := C) (N := N) (ref := (T j).1) X.1 X.2.1 X.2.2.2.2.1 h3 t0 h5 h6 X.2.2.2.1 X.2.2.2.2.2.2.1 hP hD hS a (cW_get he) h1 j h2 (X.2.2.2.2.1 _ h4) (fun _ z => z) h7 (h5 j h2) q1 q2 (by rw [List.length_map]; exact q4) hd (fun H1 locs1 hP1 hD1 hS1 => ?_)
        have ew : cW cs ad (h.set a (.inr (ci, fs.set j v))) = (cW cs ad h).set a (ad a, .inr (ci, (fs.map (cV ad)).set j (cV ad v))) := by
          rw [cW_set, ← map_set_cV]; rfl
        exact hk ad ls L r _ H1 locs1 (by rw [List.length_set]; exact hg) hl (by rw [ew]; exact hP1) (by rw [ew]; exact hD1) hS1 q7
      · exact hB.elim
    · exact hB.elim
  · exact hB.elim
theorem ok_putfF (X : MC p s m args meth c own nm cc nL rt D cs A) {idx j ty : Nat} {cis : List Nat} (hd : decode cc pc = .ok (.putfield idx, 3)) (hi : nm = "<init>") (hf : ∀ ci ∈ cis, FP own idx ci j ty true) (hk : BK p l e R s m args below meth c nL D cs A n0 a0 Q (pc + 3) cells slots k) : BK p l e R s m args below meth c nL D cs A n0 a0 Q pc cells slots (o_putf cis j ty k) := by
  intro ad ls L st h H locs hg hl hP hD hS hB
  unfold o_putf at hB
  split at hB
  · rename_i v a r
    split at hB
    · rename_i ci fs he
      split at hB
      · rename_i hc
        obtain ⟨C, T, N, t0, h1, h2, h3, h4, h5, h6, h7, h8, h9⟩ := hf ci (contains_mem hc)
        rw [nth_eq] at he
        obtain ⟨q1, q2, q3⟩ := fit_ok (ad := ad) h8 hB
        obtain ⟨q4, q5⟩ := put_spec _ _ _ _ q3
        obtain ⟨q6, q7⟩ := put_spec _ _ _ _ q5
        refine va_putF (T := T) (C := C) (N := N) (ref := (T j).1) X.1 X.2.1 X.2.2.2.2.1 h3 t0 h5 h6 X.2.2.2.1 X.2.2.2.2.2.2.1 hP hD hS a (cW_get he) h1 j h2 (X.2.2.2.2.1 _ h4) (fun _ z => z) h7 (by rw [X.2.2.2.2.2.2.2.2.2.1]; exact hi) (h9 rfl) (h5 j h2) q1 q2 (by rw [List.length_map]; exact q4) hd (fun H1 locs1 hP1 hD1 hS1 => ?_)
        have ew : cW cs ad (h.set a (.inr (ci, fs.set j v))) = (cW cs ad h).set a (ad a, .inr (ci, (fs.map (cV ad)).set j (cV ad v))) := by
          rw [cW_set, ← map_set_cV]; rfl
        exact hk ad ls L r _ H1 locs1 (by rw [List.length_set]; exact hg) hl (by rw [ew]; exact hP1) (by rw [ew]; exact hD1) hS1 q7
      · exact hB.elim
    · exact hB.elim
  · exact hB.elim
theorem ok_iaload (X : MC p s m args meth c own nm cc nL rt D cs A) (hd : decode cc pc = .ok (.iaload, 1)) (hk : BK p l e R s m args below meth c nL D cs A n0 a0 Q (pc + 1) cells slots k) : BK p l e R s m args below meth c nL D cs A n0 a0 Q pc cells slots (o_ald [0] k) := by
  intro ad ls L st h H locs hg hl hP hD hS hB
  unfold o_ald at hB
  split at hB
  · rename_i i a r
    split at hB
    · rename_i t n f he
      split at hB
      · rename_i hc
        have ht : t = 0 := by simpa using contains_mem hc
        subst ht
        rw [nth_eq] at he
        exact va_iald X.1 X.2.1 X.2.2.2.2.2.2.1 hP a 0 (cW_get he) rfl hB.1 hd (hk ad ls L (.inl (f i.toNatClampNeg) :: r) h H locs hg hl hP hD hS hB.2)
      · exact hB.elim
    · exact hB.elim
  · exact hB.elim
theorem ok_baload (X : MC p s m args meth c own nm cc nL rt D cs A) (hd : decode cc pc = .ok (.baload, 1)) (hk : BK p l e R s m args below meth c nL D cs A n0 a0 Q (pc + 1) cells slots k) : BK p l e R s m args below meth c nL D cs A n0 a0 Q pc cells slots (o_ald [1, 2] k) := by
  intro ad ls L st h H locs hg hl hP hD hS hB
  unfold o_ald at hB
  split at hB
  · rename_i i a r
    split at hB
    · rename_i t n f he
      split at hB
      · rename_i hc
        have ht : t = 1 ∨ t = 2 := by simpa using contains_mem hc
        rw [nth_eq] at he
        rcases ht with rfl | rfl
        · exact va_bald X.1 X.2.1 X.2.2.2.2.2.2.1 hP a 1 (cW_get he) rfl hB.1 hd (hk ad ls L (.inl (f i.toNatClampNeg) :: r) h H locs hg hl hP hD hS hB.2)
        · exact va_zald X.1 X.2.1 X.2.2.2.2.2.2.1 hP a 2 (cW_get he) rfl hB.1 hd (hk ad ls L (.inl (f i.toNatClampNeg) :: r) h H locs hg hl hP hD hS hB.2)
      · exact hB.elim
    · exact hB.elim
  · exact hB.elim
theorem ok_iastore (X : MC p s m args meth c own nm cc nL rt D cs A) (hd : decode cc pc = .ok (.iastore, 1)) (hk : BK p l e R s m args below meth c nL D cs A n0 a0 Q (pc + 1) cells slots k) : BK p l e R s m args below meth c nL D cs A n0 a0 Q pc cells slots (o_ast [0] k) := by
  intro ad ls L st h H locs hg hl hP hD hS hB
  unfold o_ast at hB
  split at hB
  · rename_i x i a r
    split at hB
    · rename_i t n f he
      split at hB
      · rename_i hc
        have ht : t = 0 := by simpa using contains_mem hc
        subst ht
        rw [nth_eq] at he
        obtain ⟨q6, q7⟩ := put_spec _ _ _ _ hB.2
        refine va_iast X.1 X.2.1 X.2.2.2.2.2.2.1 hP hD hS a 0 (cW_get he) rfl hB.1 hd (fun H1 locs1 hP1 hD1 hS1 => ?_)
        exact hk ad ls L r _ H1 locs1 (by rw [List.length_set]; exact hg) hl (by rw [cW_set]; exact hP1) (by rw [cW_set]; exact hD1) hS1 q7
      · exact hB.elim
    · exact hB.elim
  · exact hB.elim
theorem ok_bastore (X : MC p s m args meth c own nm cc nL rt D cs A) (hd : decode cc pc = .ok (.bastore, 1)) (hk : BK p l e R s m args below meth c nL D cs A n0 a0 Q (pc + 1) cells slots k) : BK p l e R s m args below meth c nL D cs A n0 a0 Q pc cells slots (o_ast [1, 2] k) := by
  intro ad ls L st h H locs hg hl hP hD hS hB
  unfold o_ast at hB
  split at hB
  · rename_i x i a r
    split at hB
    · rename_i t n f he
      split at hB
      · rename_i hc
        have ht : t = 1 ∨ t = 2 := by simpa using contains_mem hc
        rw [nth_eq] at he
        obtain ⟨q6, q7⟩ := put_spec _ _ _ _ hB.2
        rcases ht with rfl | rfl
        · refine va_bast X.1 X.2.1 X.2.2.2.2.2.2.1 hP hD hS a 1 (cW_get he) rfl hB.1 hd (fun H1 locs1 hP1 hD1 hS1 => ?_)
          exact hk ad ls L r _ H1 locs1 (by rw [List.length_set]; exact hg) hl (by rw [cW_set]; exact hP1) (by rw [cW_set]; exact hD1) hS1 q7
        · refine va_zast X.1 X.2.1 X.2.2.2.2.2.2.1 hP hD hS a 2 (cW_get he) rfl hB.1 hd (fun H1 locs1 hP1 hD1 hS1 => ?_)
          exact hk ad ls L r _ H1 locs1 (by rw [List.length_set]; exact hg) hl (by rw [cW_set]; exact hP1) (by rw [cW_set]; exact hD1) hS1 q7
      · exact hB.elim
    · exact hB.elim
  · exact hB.elim
theorem ok_alen (X : MC p s m args meth c own nm cc nL rt D cs A) (hd : decode cc pc = .ok (.arraylength, 1)) (hk : BK p l e R s m args below meth c nL D cs A n0 a0 Q (pc + 1) cells slots k) : BK p l e R s m args below meth c nL D cs A n0 a0 Q pc cells slots (o_alen k) := by
  intro ad ls L st h H locs hg hl hP hD hS hB
  unfold o_alen at hB
  split at hB
  · rename_i a r
    split at hB
    · rename_i t n f he
      split at hB
      · rename_i hc
        have ht : t = 0 ∨ t = 1 ∨ t = 2 := by have := Nat.blt_eq.mp hc; omega
        rw [nth_eq] at he
        rcases ht with rfl | rfl | rfl
        · exact va_alen X.1 X.2.1 X.2.2.2.2.2.2.1 hP a 0 (cW_get he) (ty := .int) rfl rfl hd (hk ad ls L (.inl (Int32.ofNat n) :: r) h H locs hg hl hP hD hS hB)
        · exact va_alen X.1 X.2.1 X.2.2.2.2.2.2.1 hP a 1 (cW_get he) (ty := .byte) rfl rfl hd (hk ad ls L (.inl (Int32.ofNat n) :: r) h H locs hg hl hP hD hS hB)
        · exact va_alen X.1 X.2.1 X.2.2.2.2.2.2.1 hP a 2 (cW_get he) (ty := .boolean) rfl rfl hd (hk ad ls L (.inl (Int32.ofNat n) :: r) h H locs hg hl hP hD hS hB)
      · exact hB.elim
    · exact hB.elim
  · exact hB.elim
variable {Rv : Option PV → PH → Prop} {mc ms : Nat}
theorem ok_vret (X : MC p s m args meth c own nm cc nL none D cs A) (hd : decode cc pc = .ok (.return_, 1)) (hc : cells ≤ mc) (hs : slots ≤ ms) : BK p l e R s m args below meth c nL D cs A n0 a0 (MQ below (Qp D cs A n0 a0 Rv) args s mc ms A) pc cells slots (o_vret Rv) := by
  intro ad ls L st h H locs hg hl hP hD hS hB
  unfold o_vret at hB
  split at hB
  · have hlocks : meth.locks = false := X.2.2.2.2.2.2.2.2.2.2
    refine W.widen hc hs ?_
    exact W.vret X.1 X.2.1 X.2.2.2.2.2.2.2.2.1 (fun t ht hW => ⟨⟨none, h, ad, rfl, hB, hg, by rw [ht]; exact hP, hD⟩, hS.F ht⟩) hS.2.2 hd
  · exact hB.elim
theorem ok_iret (X : MC p s m args meth c own nm cc nL (some .int) D cs A) (hd : decode cc pc = .ok (.ireturn, 1)) (hc : cells ≤ mc) (hs : slots ≤ ms) : BK p l e R s m args below meth c nL D cs A n0 a0 (MQ below (Qp D cs A n0 a0 Rv) args s mc ms A) pc cells slots (o_iret Rv) := by
  intro ad ls L st h H locs hg hl hP hD hS hB
  unfold o_iret at hB
  split at hB
  · rename_i v
    have hlocks : meth.locks = false := X.2.2.2.2.2.2.2.2.2.2
    refine W.widen hc hs ?_
    exact W.iret (v := v) X.1 X.2.1 X.2.2.2.2.2.2.2.2.1 (fun t ht hW => ⟨⟨some (.inl v), h, ad, rfl, hB, hg, by rw [ht]; exact hP, hD⟩, hS.F ht⟩) hS.2.2 hd
  · exact hB.elim
theorem ok_zret (X : MC p s m args meth c own nm cc nL (some .boolean) D cs A) (hd : decode cc pc = .ok (.ireturn, 1)) (hc : cells ≤ mc) (hs : slots ≤ ms) : BK p l e R s m args below meth c nL D cs A n0 a0 (MQ below (Qp D cs A n0 a0 Rv) args s mc ms A) pc cells slots (o_zret Rv) := by
  intro ad ls L st h H locs hg hl hP hD hS hB
  unfold o_zret at hB
  split at hB
  · rename_i v
    have hlocks : meth.locks = false := X.2.2.2.2.2.2.2.2.2.2
    refine W.widen hc hs ?_
    exact W.zret (v := v) X.1 X.2.1 X.2.2.2.2.2.2.2.2.1 (by rcases hB.1 with rfl | rfl <;> decide +kernel) (fun t ht hW => ⟨⟨some (.inl v), h, ad, rfl, hB.2, hg, by rw [ht]; exact hP, hD⟩, hS.F ht⟩) hS.2.2 hd
  · exact hB.elim
end OPS
end
section
/-! ===== calls: the callee's cells are some of the caller's, by their places; a place that isn't among them is a foreign one ===== -/
def posq : List Nat → Nat → Nat → Option Nat
  | [], _, _ => none
  | b :: r, a, i => match Nat.beq a b with
    | true => some i
    | false => posq r a (i + 1)
def un1 (ρ : List Nat) (B : Nat) (v : PV) : PV := match v with
  | .inl x => .inl x
  | .inr none => .inr none
  | .inr (some a) => match posq ρ a 0 with
    | some i => .inr (some i)
    | none => .inr (some (ρ.length + B + a))
def unK (ρ : List Nat) (B : Nat) (v : PV) (k : PV → Prop) : Prop := match v with
  | .inl x => k (.inl x)
  | .inr none => k (.inr none)
  | .inr (some a) => match posq ρ a 0 with
    | some i => k (.inr (some i))
    | none => k (.inr (some (ρ.length + B + a)))
theorem unK_eq (ρ : List Nat) (B : Nat) (v : PV) (k : PV → Prop) : unK ρ B v k = k (un1 ρ B v) := by
  rcases v with x | _ | a
  · rfl
  · rfl
  · unfold unK un1
    dsimp only
    split <;> rfl
def unL (ρ : List Nat) (B : Nat) : List PV → (List PV → Prop) → Prop
  | [], k => k []
  | v :: r, k => unK ρ B v (fun v' => unL ρ B r (fun r' => k (v' :: r')))
theorem unL_eq (ρ : List Nat) (B : Nat) : ∀ (l : List PV) (k : List PV → Prop), unL ρ B l k = k (l.map (un1 ρ B))
  | [], k => rfl
  | v :: r, k => by
    show unK ρ B v (fun v' => unL ρ B r (fun r' => k (v' :: r'))) = _
    rw [unK_eq, unL_eq ρ B r]
    rfl
def un2 (ρ : List Nat) (B : Nat) (e : PE) : PE := match e with
  | .inl x => .inl x
  | .inr (ci, fs) => .inr (ci, fs.map (un1 ρ B))
def unE (ρ : List Nat) (B : Nat) (e : PE) (k : PE → Prop) : Prop := match e with
  | .inl x => k (.inl x)
  | .inr (ci, fs) => unL ρ B fs (fun fs' => k (.inr (ci, fs')))
theorem unE_eq (ρ : List Nat) (B : Nat) (e : PE) (k : PE → Prop) : unE ρ B e k = k (un2 ρ B e) := by
  rcases e with x | ⟨ci, fs⟩
  · rfl
  · exact unL_eq ρ B fs _
def pick (ρ : List Nat) (B : Nat) (h : PH) : List Nat → (PH → Prop) → Prop
  | [], k => k []
  | a :: r, k => match nth h a with
    | some e => unE ρ B e (fun e' => pick ρ B h r (fun l => k (e' :: l)))
    | none => False
theorem pick_spec (ρ : List Nat) (B : Nat) (h : PH) : ∀ (r : List Nat) (k : PH → Prop), pick ρ B h r k → ∃ hc : PH, k hc ∧ hc.length = r.length ∧ ∀ (i a : Nat), r[i]? = some a → ∃ e, h[a]? = some e ∧ hc[i]? = some (un2 ρ B e)
  | [], k, hp => ⟨[], hp, rfl, fun i a hi => by simp at hi⟩
  | b :: r, k, hp => by
    unfold pick at hp
    split at hp
    · rename_i e he
      rw [unE_eq] at hp
      obtain ⟨hc, h1, h2, h3⟩ := pick_spec ρ B h r _ hp
      rw [nth_eq] at he
      refine ⟨un2 ρ B e :: hc, h1, by simp [h2], fun i a hi => ?_⟩
      cases i with
      | zero => simp at hi; subst hi; exact ⟨e, he, rfl⟩
      | succ i => simpa using h3 i a (by simpa using hi)
    · exact hp.elim
def re1 (ρ : List Nat) (B nh : Nat) (v : PV) : PV := match v with
  | .inl x => .inl x
  | .inr none => .inr none
  | .inr (some i) => match nth ρ i with
    | some a => .inr (some a)
    | none => match Nat.blt i (ρ.length + B) with
      | true => .inr (some (nh + (i - ρ.length)))
      | false => .inr (some (i - (ρ.length + B)))
def reK (ρ : List Nat) (B nh : Nat) (v : PV) (k : PV → Prop) : Prop := match v with
  | .inl x => k (.inl x)
  | .inr none => k (.inr none)
  | .inr (some i) => match nth ρ i with
    | some a => k (.inr (some a))
    | none => match Nat.blt i (ρ.length + B) with
      | true => k (.inr (some (nh + (i - ρ.length))))
      | false => k (.inr (some (i - (ρ.length + B))))
theorem reK_eq (ρ : List Nat) (B nh : Nat) (v : PV) (k : PV → Prop) : reK ρ B nh v k = k (re1 ρ B nh v) := by
  rcases v with x | _ | a
  · rfl
  · rfl
  · unfold reK re1
    dsimp only
    split
    · rfl
    · split <;> rfl
def reL (ρ : List Nat) (B nh : Nat) : List PV → (List PV → Prop) → Prop
  | [], k => k []
  | v :: r, k => reK ρ B nh v (fun v' => reL ρ B nh r (fun r' => k (v' :: r')))
theorem reL_eq (ρ : List Nat) (B nh : Nat) : ∀ (l : List PV) (k : List PV → Prop), reL ρ B nh l k = k (l.map (re1 ρ B nh))
  | [], k => rfl
  | v :: r, k => by
    show reK ρ B nh v (fun v' => reL ρ B nh r (fun r' => k (v' :: r'))) = _
    rw [reK_eq, reL_eq ρ B nh r]
    rfl
def re2 (ρ : List Nat) (B nh : Nat) (e : PE) : PE := match e with
  | .inl x => .inl x
  | .inr (ci, fs) => .inr (ci, fs.map (re1 ρ B nh))
def reE (ρ : List Nat) (B nh : Nat) (e : PE) (k : PE → Prop) : Prop := match e with
  | .inl x => k (.inl x)
  | .inr (ci, fs) => reL ρ B nh fs (fun fs' => k (.inr (ci, fs')))
theorem reE_eq (ρ : List Nat) (B nh : Nat) (e : PE) (k : PE → Prop) : reE ρ B nh e k = k (re2 ρ B nh e) := by
  rcases e with x | ⟨ci, fs⟩
  · rfl
  · exact reL_eq ρ B nh fs _
def apK (ρ : List Nat) (B nh : Nat) : Nat → PH → PH → (PH → Prop) → Prop
  | 0, [], h, k => k h
  | n + 1, e :: h', h, k => reE ρ B nh e (fun e' => snoc h e' (fun h2 => apK ρ B nh n h' h2 k))
  | 0, _ :: _, _, _ => False
  | _ + 1, [], _, _ => False
theorem apK_spec (ρ : List Nat) (B nh : Nat) : ∀ (n : Nat) (h' h : PH) (k : PH → Prop), apK ρ B nh n h' h k → h'.length = n ∧ k (h ++ h'.map (re2 ρ B nh))
  | 0, [], h, k, hp => ⟨rfl, by
    have hp : k h := hp
    simpa using hp⟩
  | n + 1, e :: h', h, k, hp => by
    have hp : reE ρ B nh e (fun e' => snoc h e' (fun h2 => apK ρ B nh n h' h2 k)) := hp
    rw [reE_eq] at hp
    have h2 := snoc_spec _ _ _ hp
    obtain ⟨h3, h4⟩ := apK_spec ρ B nh n h' _ k h2
    exact ⟨by simp [h3], by simpa using h4⟩
  | 0, _ :: _, _, _, hp => hp.elim
  | _ + 1, [], _, _, hp => hp.elim
def wbK (ρ : List Nat) (B nh : Nat) : List Nat → PH → PH → (PH → Prop) → Prop
  | a :: r, e :: h', h, k => reE ρ B nh e (fun e' => put h a e' (fun h2 => wbK ρ B nh r h' h2 k))
  | [], h', h, k => apK ρ B nh B h' h k
  | _ :: _, [], _, _ => False
/-- the cells behind a call: those of the callee at their places, the rest as it was, new ones at the end -/
theorem wbK_spec (ρ : List Nat) (B nh : Nat) : ∀ (r : List Nat) (h' h : PH) (k : PH → Prop), (∀ (i j a : Nat), r[i]? = some a → r[j]? = some a → i = j) → wbK ρ B nh r h' h k → ∃ h2 : PH, k h2 ∧ h'.length = r.length + B ∧ h2.length = h.length + B ∧
    (∀ (i a : Nat), r[i]? = some a → a < h.length ∧ h2[a]? = h'[i]?.map (re2 ρ B nh)) ∧ (∀ a : Nat, a < h.length → a ∉ r → h2[a]? = h[a]?) ∧ ∀ j : Nat, j < B → h2[h.length + j]? = h'[r.length + j]?.map (re2 ρ B nh)
  | [], h', h, k, hn, hp => by
    obtain ⟨h1, h2⟩ := apK_spec ρ B nh B h' h k hp
    refine ⟨_, h2, by simp [h1], by simp [h1], fun i a hi => by simp at hi, fun a ha _ => by rw [List.getElem?_append_left ha], fun j hj => ?_⟩
    rw [List.getElem?_append_right (by omega), List.getElem?_map]
    simp
  | b :: r, [], h, k, hn, hp => hp.elim
  | b :: r, e :: h', h, k, hn, hp => by
    have hp : reE ρ B nh e (fun e' => put h b e' (fun h2 => wbK ρ B nh r h' h2 k)) := hp
    rw [reE_eq] at hp
    obtain ⟨q1, q2⟩ := put_spec _ _ _ _ hp
    have hn' : ∀ (i j a : Nat), r[i]? = some a → r[j]? = some a → i = j := fun i j a hi hj => by
      have := hn (i + 1) (j + 1) a (by simpa using hi) (by simpa using hj)
      omega
    obtain ⟨h2, g1, g2, g3, g4, g5, g6⟩ := wbK_spec ρ B nh r h' _ k hn' q2
    have hb : b ∉ r := fun hb => by
      obtain ⟨j, hj⟩ := List.getElem?_of_mem hb
      have := hn 0 (j + 1) b (by simp) (by simpa using hj)
      omega
    rw [List.length_set] at g3 g4 g5 g6
    refine ⟨h2, g1, by simp [g2]; omega, g3, fun i a hi => ?_, fun a ha hr => ?_, fun j hj => ?_⟩
    · cases i with
      | zero =>
        simp at hi
        subst hi
        refine ⟨q1, ?_⟩
        rw [g5 b q1 hb, List.getElem?_set_self q1]
        simp
      | succ i => simpa using g4 i a (by simpa using hi)
    · rw [List.mem_cons, not_or] at hr
      rw [g5 a ha hr.2, List.getElem?_set_ne (Ne.symm hr.1)]
    · rw [g6 j hj]
      simp [show r.length + 1 + j = r.length + j + 1 by omega]
theorem posq_some : ∀ (ρ : List Nat) (a b i : Nat), posq ρ a b = some i → b ≤ i ∧ ρ[i - b]? = some a
  | [], a, b, i, h => by simp [posq] at h
  | c :: r, a, b, i, h => by
    unfold posq at h
    split at h
    · rename_i hb
      cases h
      exact ⟨Nat.le_refl _, by simp [Nat.eq_of_beq_eq_true hb]⟩
    · obtain ⟨h1, h2⟩ := posq_some r a (b + 1) i h
      refine ⟨by omega, ?_⟩
      rw [show i - b = (i - (b + 1)) + 1 by omega]
      simpa using h2
theorem nd_inj {ρ : List Nat} (h : va_nd ρ = true) : ∀ (i j a : Nat), ρ[i]? = some a → ρ[j]? = some a → i = j := fun i j a => va_nd_inj ρ h i j a
/-- the callee's addresses -/
def adc (ρ : List Nat) (B : Nat) (ad : Nat → Nat) (i : Nat) : Nat := match ρ[i]? with
  | some a => ad a
  | none => ad (i - (ρ.length + B))
theorem cV_un {ρ : List Nat} {B : Nat} {ad : Nat → Nat} (v : PV) : cV (adc ρ B ad) (un1 ρ B v) = cV ad v := by
  rcases v with x | _ | a
  · rfl
  · rfl
  · unfold un1
    dsimp only
    split
    · rename_i i hi
      have h2 := (posq_some ρ a 0 i hi).2
      rw [Nat.sub_zero] at h2
      show Value.ref (adc ρ B ad i) = _
      unfold adc
      rw [h2]
      rfl
    · show Value.ref (adc ρ B ad (ρ.length + B + a)) = _
      unfold adc
      rw [List.getElem?_eq_none (by omega), Nat.add_sub_cancel_left]
      rfl
theorem cV_unL {ρ : List Nat} {B : Nat} {ad : Nat → Nat} (l : List PV) : (l.map (un1 ρ B)).map (cV (adc ρ B ad)) = l.map (cV ad) := by
  rw [List.map_map]
  exact List.map_congr_left fun v _ => cV_un v
theorem cE_un {cs : Nat → ClassId} {ρ : List Nat} {B : Nat} {ad : Nat → Nat} (e : PE) : cE cs (adc ρ B ad) (un2 ρ B e) = cE cs ad e := by
  rcases e with ⟨t, n, f⟩ | ⟨ci, fs⟩
  · rfl
  · show Sum.inr (ci, (fs.map (un1 ρ B)).map (cV (adc ρ B ad))) = _
    rw [cV_unL]
    rfl
theorem sub_cW {cs : Nat → ClassId} {ρ : List Nat} {B : Nat} {ad : Nat → Nat} {h hc : PH} (h1 : hc.length = ρ.length) (h2 : ∀ (i a : Nat), ρ[i]? = some a → ∃ e, h[a]? = some e ∧ hc[i]? = some (un2 ρ B e)) : ρ.map (fun a => (cW cs ad h)[a]?) = (cW cs (adc ρ B ad) hc).map some := by
  apply List.ext_getElem?
  intro i
  rw [List.getElem?_map, List.getElem?_map]
  cases hi : ρ[i]? with
  | none =>
    have : ρ.length ≤ i := by simpa using hi
    rw [List.getElem?_eq_none (by rw [cW_len]; omega)]
    rfl
  | some a =>
    obtain ⟨e, e1, e2⟩ := h2 i a hi
    rw [cW_get e2]
    show some ((cW cs ad h)[a]?) = some (some _)
    rw [cW_get e1, cE_un]
    unfold adc
    rw [hi]
def rcK (rc : Option Nat) (as : List PV) (h : PH) (K : Prop) : Prop := match rc with
  | none => K
  | some ci => match as with
    | .inr (some a) :: _ => match nth h a with
      | some (.inr (cj, _)) => match Nat.beq ci cj with
        | true => K
        | false => False
      | _ => False
    | _ => False
/-- a call that makes nothing -/
def o_call (M : List PV → PH → (Option PV → PH → Prop) → Prop) (rc : Option Nat) (n : Nat) (ρ : List Nat) (k : Blk) : Blk := fun L st h =>
  popN n st [] (fun as rest => rcK rc as h (Nat.ble rest.length 8 = true ∧ va_nd ρ = true ∧ pick ρ 0 h ρ (fun hc => unL ρ 0 as (fun as' => ∃ post : Option PV → PH → Prop, M as' hc post ∧ ∀ (r : Option PV) (h' : PH), post r h' → wbK ρ 0 h.length ρ h' h (fun h2 => match r with
    | none => k L rest h2
    | some v => reK ρ 0 h.length v (fun v' => k L (v' :: rest) h2))))))
/-- a constructor's call: B cells come -/
def o_callA (M : List PV → PH → (Option PV → PH → Prop) → Prop) (B : Nat) (n : Nat) (ρ : List Nat) (k : Blk) : Blk := fun L st h =>
  popN n st [] (fun as rest => ∃ (a : Nat) (as1 : List PV), as = .inr (some a) :: as1 ∧ Nat.ble rest.length 8 = true ∧ va_nd ρ = true ∧ (okL h.length (h.length + B) L && okF h.length (h.length + B) rest && okH h.length (h.length + B) h) = true ∧ pick ρ B h ρ (fun hc => unL ρ B as (fun as' => ∃ post : Option PV → PH → Prop, M as' hc post ∧ ∀ (r : Option PV) (h' : PH), post r h' → r = none ∧
    okH (ρ.length + B + h.length) (ρ.length + B + h.length + B) h' = true ∧ wbK ρ B h.length ρ h' h (fun h2 => k L rest h2))))
section CALLS
variable {p : Program} {l : Launch} {e : Env} {R : Room} {s : State} {m : MethodId} {args : Array Value} {below : List Frame} {meth : Method} {c : Code} {own nm : String} {cc : ByteArray} {nL : Nat} {rt : Option FieldType} {D : va_G} {cs : Nat → ClassId} {A : Nat → Prop} {n0 : Nat} {a0 : Nat → Nat} {Q : State → Prop} {pc cells slots : Nat} {k kt kf : Blk}
/-- the callee's run, and what comes behind it -/
theorem p_call {H : Heap} {locs : List Loc} {mc ms : Nat} {ls : Array Slot} {st0 rest : List Value} {A1 : Nat → Prop} {n1 : Nat} {a1 : Nat → Nat} {post : Option PV → PH → Prop} {av : Array Value}
    (hr : va_Run p l e R s m args below meth c H locs cells slots mc ms (F0 m pc ls st0) rest (Qp D cs A1 n1 a1 post av) A1) (hS : va_S A s.heap H locs) (hA : ∀ q, A1 q → A q)
    (kk : ∀ (r : Option PV) (h' : PH) (ad' : Nat → Nat) (H1 : Heap) (locs1 : List Loc), post r h' → ag n1 a1 ad' h'.length → va_P D vwCl (cW cs ad' h') H1 → va_D A1 (cW cs ad' h') → (∀ q : Nat, q < H.size → ¬ A1 q → H1[q]? = H[q]?) → va_S A s.heap H1 locs1 →
      W p l e R s m args below meth c H1 locs1 (cells + mc) (slots + ms) Q (F0 m (pc + 3) ls ((r.map (cV ad')).toList ++ rest))) : W p l e R s m args below meth c H locs cells slots Q (F0 m pc ls st0) := by
  intro T hT X
  obtain ⟨v, st₀, t, T', L, h0, X', hL, e1, e2, ⟨⟨r, h', ad', hv, hp, hg, hP1, hD1⟩, hz, hk⟩, st⟩ := hr T hT X
  cases hv
  rw [h0] at hz hk
  obtain ⟨t2, a1, b1⟩ := kk r h' ad' T'.heap (locs ++ L) hp hg (by rw [e1]; exact hP1) hD1 (fun q h1 h2 => by rw [e1]; exact hk q h1 h2)
    ⟨Nat.le_trans hS.1 (by rw [e1]; exact hz), fun q h1 h2 => by rw [e1, hk q (Nat.lt_of_lt_of_le h1 hS.1) (fun z => h2 (hA q z))]; exact hS.2.1 q h1 h2, fun q hq => by
      rcases List.mem_append.mp hq with h | h
      · exact hS.2.2 q h
      · exact hA _ (hL q h)⟩ T' rfl X'
  exact ⟨t2, st t2 a1, b1⟩
/-- the caller's world behind the call -/
theorem p_world {locs : List Loc} {ρ : List Nat} {ad a1 ad' ad2 : Nat → Nat} {h hc h' h2 : PH} {H H1 : Heap} (hP : va_P D vwCl (cW cs ad h) H) (hD : va_D A (cW cs ad h)) (hS : va_S A s.heap H locs) (hA0 : ∀ q : Nat, s.heap.size ≤ q → A q)
    (hn : ∀ (i j a : Nat), ρ[i]? = some a → ρ[j]? = some a → i = j) (hsub : ρ.map (fun a => (cW cs ad h)[a]?) = (cW cs a1 hc).map some)
    (hk : ∀ q : Nat, q < H.size → ¬ va_A (cW cs a1 hc) H.size q → H1[q]? = H[q]?) (hP1 : va_P D vwCl (cW cs ad' h') H1) (hD1 : va_D (va_A (cW cs a1 hc) H.size) (cW cs ad' h'))
    (hsp : ∀ (x : Nat) (q : Nat × va_E), (cW cs ad2 h2)[x]? = some q → (x ∉ ρ ∧ (cW cs ad h)[x]? = some q) ∨ ∃ i : Nat, (ρ[i]? = some x ∨ (ρ.length ≤ i ∧ x = h.length + (i - ρ.length))) ∧ (cW cs ad' h')[i]? = some q) (hlt : ∀ (i a : Nat), ρ[i]? = some a → a < h.length) : va_P D vwCl (cW cs ad2 h2) H1 ∧ va_D A (cW cs ad2 h2) := by
  have hF := va_free (wc := cW cs a1 hc) hD hS hA0 ρ hsub
  have hout : ∀ (x : Nat) (q : Nat × va_E), x ∉ ρ → (cW cs ad h)[x]? = some q → q.1 < H.size ∧ ¬ va_A (cW cs a1 hc) H.size q.1 := by
    intro x q hx hq
    have hl := (hP x q hq).lt
    refine ⟨hl, fun hz => ?_⟩
    rcases hz with ⟨k2, e2, hz⟩ | hz
    · have h1 : (ρ.map (fun a => (cW cs ad h)[a]?))[k2]? = some (some (q.1, e2)) := by rw [hsub, List.getElem?_map, hz]; rfl
      rw [List.getElem?_map] at h1
      cases hi : ρ[k2]? with
      | none => rw [hi] at h1; cases h1
      | some a =>
        rw [hi] at h1
        have := hD.1 x a q (q.1, e2) hq (Option.some.inj h1) rfl
        subst this
        exact hx (List.mem_of_getElem? hi)
    · omega
  refine ⟨fun x q hq => ?_, ⟨fun x y a b hx hy hab => ?_, fun x q hq => ?_⟩⟩
  · rcases hsp x q hq with ⟨g1, g2⟩ | ⟨i, -, g2⟩
    · obtain ⟨l1, l2⟩ := hout x q g1 g2
      exact (hP x q g2).kept (hk q.1 l1 l2)
    · exact hP1 i q g2
  · rcases hsp x a hx with ⟨g1, g2⟩ | ⟨i, g1, g2⟩ <;> rcases hsp y b hy with ⟨f1, f2⟩ | ⟨j, f1, f2⟩
    · exact hD.1 x y a b g2 f2 hab
    · exact absurd (by rw [hab]; exact hD1.2 j b f2) (hout x a g1 g2).2
    · exact absurd (by rw [← hab]; exact hD1.2 i a g2) (hout y b f1 f2).2
    · have hij := hD1.1 i j a b g2 f2 hab
      subst hij
      rcases g1 with g1 | ⟨g1, g3⟩ <;> rcases f1 with f1 | ⟨f1, f3⟩
      · exact Option.some.inj (g1.symm.trans f1)
      · have := (List.getElem?_eq_some_iff.mp g1).1; omega
      · have := (List.getElem?_eq_some_iff.mp f1).1; omega
      · omega
  · rcases hsp x q hq with ⟨g1, g2⟩ | ⟨i, -, g2⟩
    · exact hD.2 x q g2
    · exact hF _ (hD1.2 i q g2)
end CALLS
end
section
/-! links of calls -/
def MLb (y : MethodName) (cc' : ByteArray) (maxL : Nat) (rt' : Option FieldType) (n : Nat) : Prop := Cond.code y cc' maxL rt' ∈ TB ∧ Cond.initialized y.cls ∈ TB ∧ (y.cls ≠ "java/lang/invoke/MethodHandle" ∧ y.cls ≠ "java/lang/invoke/VarHandle" ∧ (parseMethodDescriptor y.desc).map (fun d => d.parameters.length) = some n)
def recv (ci : Nat) (C : String) : Prop := ∃ (T : u_T) (N : Nat), vwCl[ci]? = some (C, T, N)
def MLV (own : String) (idx ci : Nat) (y : MethodName) (cc' : ByteArray) (maxL : Nat) (rt' : Option FieldType) (n : Nat) : Prop := MLb y cc' maxL rt' n ∧ Cond.methodLink own idx y ∈ TB ∧ Cond.instanceMethod y ∈ TB ∧ Cond.selects y.cls y y ∈ TB ∧ recv ci y.cls
def MLVN (own : String) (idx ci : Nat) (y : MethodName) (cc' : ByteArray) (maxL : Nat) (rt' : Option FieldType) (n : Nat) : Prop := MLb y cc' maxL rt' n ∧ (∃ host, Cond.methodLinkNest own idx y host ∈ NW) ∧ Cond.instanceMethod y ∈ TB ∧ Cond.selects y.cls y y ∈ TB ∧ recv ci y.cls
def MLS (own : String) (idx : Nat) (y : MethodName) (cc' : ByteArray) (maxL : Nat) (rt' : Option FieldType) (n : Nat) : Prop := MLb y cc' maxL rt' n ∧ Cond.methodLink own idx y ∈ TB ∧ Cond.static y ∈ TB
def MLSN (own : String) (idx : Nat) (y : MethodName) (cc' : ByteArray) (maxL : Nat) (rt' : Option FieldType) (n : Nat) : Prop := MLb y cc' maxL rt' n ∧ (∃ host, Cond.methodLinkNest own idx y host ∈ NW) ∧ Cond.static y ∈ TB
def MLI (own : String) (idx : Nat) (y : MethodName) (cc' : ByteArray) (maxL : Nat) (n : Nat) : Prop := MLb y cc' maxL none n ∧ Cond.methodLink own idx y ∈ TB ∧ Cond.instanceMethod y ∈ TB ∧ y.name = "<init>"
def MLIN (own : String) (idx : Nat) (y : MethodName) (cc' : ByteArray) (maxL : Nat) (n : Nat) : Prop := MLb y cc' maxL none n ∧ (∃ host, Cond.methodLinkNest own idx y host ∈ NW) ∧ Cond.instanceMethod y ∈ TB ∧ y.name = "<init>"
def MLU (own : String) (idx ci : Nat) (C : String) (x y : MethodName) (cc' : ByteArray) (maxL : Nat) (rt' : Option FieldType) (n : Nat) : Prop := MLb y cc' maxL rt' n ∧ y.name = x.name ∧ y.desc = x.desc ∧ Cond.methodLink own idx x ∈ TB ∧ Cond.sameMethod x.cls y.cls x.name x.desc ∈ TB ∧ Cond.instanceMethod y ∈ TB ∧ Cond.selects C x y ∈ TB ∧ recv ci C
theorem len_of {d : String} {n : Nat} (h : (parseMethodDescriptor d).map (fun d => d.parameters.length) = some n) : ∀ sig, parseMethodDescriptor d = some sig → n = sig.parameters.length := fun sig hs => by
  rw [hs] at h
  exact (Option.some.inj h).symm
theorem fm_of_map {ws ws' : va_W} {ρ : List Nat} (h : ρ.map (fun a => ws[a]?) = ws'.map some) : ρ.filterMap (fun a => ws[a]?) = ws' := by
  have : ρ.filterMap (fun a => ws[a]?) = (ρ.map (fun a => ws[a]?)).filterMap id := by rw [List.filterMap_map]; rfl
  rw [this, h, List.filterMap_map]
  simp
theorem pre_blind {D : va_G} {cs : Nat → ClassId} {ad : Nat → Nat} {h : PH} {sz : Nat} {av : List Value} : FrameBlind (va_Pc av (prD D cs ad h sz)) := fun a U g mk q => by
  obtain ⟨q0, q1, qP, qK, qD, qN⟩ := q
  exact ⟨q0, q1, qP, va_K.moved (u := U) (U := U.calling g mk a) (Vm.Alike.refl U.vm) qK, qD, fun w hw => NW_same hw (s := U) (U := U.calling g mk a) rfl (qN w hw)⟩
theorem cV_re0 {ρ : List Nat} {nh : Nat} {ad : Nat → Nat} (v : PV) : cV (adc ρ 0 ad) v = cV ad (re1 ρ 0 nh v) := by
  rcases v with x | _ | i
  · rfl
  · rfl
  · unfold re1
    dsimp only
    split
    · rename_i a ha
      rw [nth_eq] at ha
      show Value.ref (adc ρ 0 ad i) = _
      unfold adc
      rw [ha]
      rfl
    · rename_i ha
      rw [nth_eq] at ha
      have hl : ρ.length ≤ i := by simpa using ha
      split
      · rename_i hb
        have := Nat.blt_eq.mp hb
        omega
      · show Value.ref (adc ρ 0 ad i) = _
        unfold adc
        rw [ha]
        rfl
theorem cE_re0 {cs : Nat → ClassId} {ρ : List Nat} {nh : Nat} {ad : Nat → Nat} (e : PE) : cE cs (adc ρ 0 ad) e = cE cs ad (re2 ρ 0 nh e) := by
  rcases e with ⟨t, n, f⟩ | ⟨ci, fs⟩
  · rfl
  · show Sum.inr (ci, fs.map (cV (adc ρ 0 ad))) = Sum.inr (ci, (fs.map (re1 ρ 0 nh)).map (cV ad))
    rw [List.map_map]
    exact congrArg (fun z => Sum.inr (ci, z)) (List.map_congr_left fun v _ => cV_re0 v)
section CALLS2
variable {p : Program} {l : Launch} {e : Env} {R : Room} {s : State} {m : MethodId} {args : Array Value} {below : List Frame} {meth : Method} {c : Code} {own nm : String} {cc : ByteArray} {nL : Nat} {rt : Option FieldType} {D : va_G} {cs : Nat → ClassId} {A : Nat → Prop} {n0 : Nat} {a0 : Nat → Nat} {Q : State → Prop} {pc cells slots : Nat} {k kt kf : Blk}
theorem MC.callB {own' : String} (X : MC p s m args meth c own nm cc nL rt D cs A) {y : MethodName} {cc' : ByteArray} {maxL n d mc ms : Nat} {rt' : Option FieldType} (hb : MLb y cc' maxL rt' n) (hR : d + 1 ≤ R.frames ∧ 8 + (maxL + 11) + 64 * d ≤ R.locals) {idx : Nat} (hl : (Cond.methodLink own' idx y).before args s = true) : CallB R s args own' idx y cc' maxL rt' (Cond.code y cc' maxL rt' :: TB) (rmD d mc ms) mc ms n :=
  ⟨rfl, rfl, hR.1, hR.2, pay_in (big := TB) X.2.2.2.2.1 (fun w hw => by
    rcases List.mem_cons.mp hw with rfl | hw
    · exact ⟨hb.1, TB_good hb.1⟩
    · exact ⟨hw, TB_good hw⟩), List.mem_cons_self, X.2.2.2.2.1 _ hb.1, X.2.2.2.2.1 _ hb.2.1, ⟨hb.2.2.1, hb.2.2.2.1⟩, len_of hb.2.2.2.2, hl⟩
theorem MC.callN (X : MC p s m args meth c own nm cc nL rt D cs A) {y : MethodName} {cc' : ByteArray} {maxL n d mc ms : Nat} {rt' : Option FieldType} (hb : MLb y cc' maxL rt' n) (hR : d + 1 ≤ R.frames ∧ 8 + (maxL + 11) + 64 * d ≤ R.locals) {idx : Nat} {host : String} (hl : Cond.methodLinkNest own idx y host ∈ NW) : va_CN R s args own idx y host cc' maxL rt' (Cond.code y cc' maxL rt' :: TB) (rmD d mc ms) mc ms n :=
  ⟨⟨rfl, rfl, hR.1, hR.2, pay_in (big := TB) X.2.2.2.2.1 (fun w hw => by
    rcases List.mem_cons.mp hw with rfl | hw
    · exact ⟨hb.1, TB_good hb.1⟩
    · exact ⟨hw, TB_good hw⟩), List.mem_cons_self⟩, X.2.2.2.2.1 _ hb.1, X.2.2.2.2.1 _ hb.2.1, ⟨hb.2.2.1, hb.2.2.2.1⟩, len_of hb.2.2.2.2, va_Nw.use rfl (X.2.2.2.2.2.1 _ hl)⟩
theorem MC.pre (X : MC p s m args meth c own nm cc nL rt D cs A) {ad : Nat → Nat} {h hc : PH} {H : Heap} {ρ : List Nat} {B : Nat} {as : List PV} (hP : va_P D vwCl (cW cs ad h) H) (hD : va_D A (cW cs ad h)) (hnd : va_nd ρ = true) (hsub : ρ.map (fun a => (cW cs ad h)[a]?) = (cW cs (adc ρ B ad) hc).map some) : ∀ U : State, U.heap = H → s.WarmedH U.vm → va_Pc ((as.map (un1 ρ B)).map (cV (adc ρ B ad))) (prD D cs (adc ρ B ad) hc H.size) (as.map (cV ad)).toArray U := fun U hU hW =>
  ⟨by rw [cV_unL], by rw [hU], by rw [hU]; exact hP.sub ρ (fm_of_map hsub), va_K.moved hW.alike X.2.2.2.2.2.2.1, (hD.sub ρ hnd hsub).weaken (fun _ _ _ _ => trivial), fun w hw => NW_warm hw hW (X.2.2.2.2.2.1 w hw)⟩
/-- behind a call that made nothing -/
theorem p_after0 (X : MC p s m args meth c own nm cc nL rt D cs A) {ad : Nat → Nat} {ls : Array Slot} {L : PL} {rest : List PV} {h hc h' : PH} {H H1 : Heap} {locs locs1 : List Loc} {ρ : List Nat} {r : Option PV} {ad' : Nat → Nat} (hg : ag n0 a0 ad h.length) (hl : plr ad ls nL L) (hP : va_P D vwCl (cW cs ad h) H) (hD : va_D A (cW cs ad h)) (hS : va_S A s.heap H locs) (hnd : va_nd ρ = true) (hcl : hc.length = ρ.length) (hsub : ρ.map (fun a => (cW cs ad h)[a]?) = (cW cs (adc ρ 0 ad) hc).map some)
    (hg1 : ag hc.length (adc ρ 0 ad) ad' h'.length) (hP1 : va_P D vwCl (cW cs ad' h') H1) (hD1 : va_D (va_A (cW cs (adc ρ 0 ad) hc) H.size) (cW cs ad' h')) (hk1 : ∀ q : Nat, q < H.size → ¬ va_A (cW cs (adc ρ 0 ad) hc) H.size q → H1[q]? = H[q]?) (hS1 : va_S A s.heap H1 locs1)
    (hB : wbK ρ 0 h.length ρ h' h (fun h2 => match r with
      | none => k L rest h2
      | some v => reK ρ 0 h.length v (fun v' => k L (v' :: rest) h2))) (hk : BK p l e R s m args below meth c nL D cs A n0 a0 Q (pc + 3) cells slots k) : W p l e R s m args below meth c H1 locs1 cells slots Q (F0 m (pc + 3) ls ((r.map (cV ad')).toList ++ rest.map (cV ad))) := by
  obtain ⟨h2, hB, hh1, hh2, hh3, hh4, hh5⟩ := wbK_spec ρ 0 h.length ρ h' h _ (nd_inj hnd) hB
  have had : ad' = adc ρ 0 ad := funext fun i => hg1.2 i (by omega)
  subst had
  have hw := p_world (ad2 := ad) (h2 := h2) hP hD hS X.2.2.2.2.2.2.2.1 (nd_inj hnd) hsub hk1 hP1 hD1 (fun x q hq => by
    rw [cW_at] at hq
    cases he : h2[x]? with
    | none => rw [he] at hq; cases hq
    | some e2 =>
      rw [he] at hq
      have hq' : (ad x, cE cs ad e2) = q := by simpa using hq
      subst hq'
      by_cases hx : x ∈ ρ
      · obtain ⟨i, hi⟩ := List.getElem?_of_mem hx
        refine Or.inr ⟨i, Or.inl hi, ?_⟩
        have h3 := (hh3 i x hi).2
        rw [he] at h3
        cases he' : h'[i]? with
        | none => rw [he'] at h3; cases h3
        | some e1 =>
          rw [he'] at h3
          have h4 : e2 = re2 ρ 0 h.length e1 := by simpa using h3
          rw [cW_get he', h4, cE_re0 (nh := h.length) e1]
          unfold adc
          rw [hi]
      · have hlt : x < h.length := by
          have := (List.getElem?_eq_some_iff.mp he).1
          omega
        refine Or.inl ⟨hx, ?_⟩
        rw [hh4 x hlt hx] at he
        exact cW_get he) (fun i a hi => (hh3 i a hi).1)
  have hg2 : ag n0 a0 ad h2.length := by rw [hh2]; exact hg
  cases r with
  | none => exact hk ad ls L rest h2 H1 locs1 hg2 hl hw.1 hw.2 hS1 hB
  | some v =>
    have hB : reK ρ 0 h.length v (fun v' => k L (v' :: rest) h2) := hB
    rw [reK_eq] at hB
    have h9 := hk ad ls L (re1 ρ 0 h.length v :: rest) h2 H1 locs1 hg2 hl hw.1 hw.2 hS1 hB
    rw [List.map_cons, ← cV_re0 (nh := h.length) v] at h9
    exact h9

theorem ok_callV (X : MC p s m args meth c own nm cc nL rt D cs A) {d idx n maxL ci : Nat} {y : MethodName} {cc' : ByteArray} {rt' : Option FieldType} {ρ : List Nat} (hd : decode cc pc = .ok (.invokevirtual idx, 3)) (hL : MLV own idx ci y cc' maxL rt' n) (hR : d + 1 ≤ R.frames ∧ 8 + (maxL + 11) + 64 * d ≤ R.locals) (hc0 : cells ≤ R.cells) (hs0 : slots ≤ R.slots) (hk : BK p l e R s m args below meth c nL D cs A n0 a0 Q (pc + 3) cells slots k) : BK p l e R s m args below meth c nL D cs A n0 a0 Q pc cells slots (o_call (MetP l d y cc' maxL rt' 0 0) (some ci) (n + 1) ρ k) := by
  intro ad ls L st h H locs hg hl hP hD hS hB
  obtain ⟨as0, rest, hst, hlen, hB⟩ := popN_spec _ _ _ _ hB
  rw [List.append_nil] at hB
  unfold rcK at hB
  dsimp only at hB
  split at hB
  case h_2 => exact hB.elim
  rename_i a as
  split at hB
  case h_2 => exact hB.elim
  rename_i cj fs he
  split at hB
  case h_2 => exact hB.elim
  rename_i hcj
  rw [nth_eq] at he
  cases Nat.eq_of_beq_eq_true hcj
  obtain ⟨hle, hnd, hB⟩ := hB
  obtain ⟨hc, hB, hcl, hcs⟩ := pick_spec _ _ _ _ _ hB
  rw [unL_eq] at hB
  obtain ⟨post, hM, hB⟩ := hB
  have hsub := sub_cW (cs := cs) (ad := ad) hcl hcs
  have hfree := va_free (wc := cW cs (adc ρ 0 ad) hc) hD hS X.2.2.2.2.2.2.2.1 ρ hsub
  have hroom : 2 * (F0 m pc ls (st.map (cV ad))).monitorRoom + ((rest.map (cV ad)).map fun v => v.category).sum ≤ 8 := lv_room (by rw [cV_sum]; exact Nat.ble_eq.mp hle)
  have hrecv : ∃ cellB : Cell, H[ad a]? = some cellB ∧ cellB.vm.isStatics = false ∧ s.vm.findClass y.cls = some cellB.cls := by
    obtain ⟨T0, N0, hci⟩ := hL.2.2.2.2
    exact va_recv X.2.2.2.2.2.2.1 hP hci (cW_get he)
  have hstk : st.map (cV ad) = (as.map (cV ad)).reverse ++ .ref (ad a) :: rest.map (cV ad) := by rw [hst]; simp [cV]
  have hn1 : (as.map (cV ad)).length = n := by simpa using hlen
  exact p_call (A1 := va_A (cW cs (adc ρ 0 ad) hc) H.size) (n1 := hc.length) (a1 := adc ρ 0 ad) (post := post) (rest := rest.map (cV ad)) (mc := 0) (ms := 0) (va_runV (C := y.cls) (b := ad a) (As := as.map (cV ad)) ⟨X.1, X.2.1, X.2.2.1, X.2.2.2.1, X.2.2.2.2.1⟩ (hM D cs (adc ρ 0 ad) H.size) ⟨X.callB hL.1 hR (X.2.2.2.2.1 _ hL.2.1), X.2.2.2.2.1 _ hL.2.2.1, X.2.2.2.2.1 _ hL.2.2.2.1⟩ ⟨pre_blind, hrecv, X.pre (as := .inr (some a) :: as) hP hD hnd hsub⟩ rfl hn1 hl.1 hstk hroom hd ⟨hc0, hs0⟩) hS hfree (fun r h' ad' H1 locs1 hp hg1 hP1 hD1 hk1 hS1 => p_after0 X hg hl hP hD hS hnd hcl hsub hg1 hP1 hD1 hk1 hS1 (hB r h' hp) hk)

theorem ok_callVN (X : MC p s m args meth c own nm cc nL rt D cs A) {d idx n maxL ci : Nat} {y : MethodName} {cc' : ByteArray} {rt' : Option FieldType} {ρ : List Nat} (hd : decode cc pc = .ok (.invokevirtual idx, 3)) (hL : MLVN own idx ci y cc' maxL rt' n) (hR : d + 1 ≤ R.frames ∧ 8 + (maxL + 11) + 64 * d ≤ R.locals) (hc0 : cells ≤ R.cells) (hs0 : slots ≤ R.slots) (hk : BK p l e R s m args below meth c nL D cs A n0 a0 Q (pc + 3) cells slots k) : BK p l e R s m args below meth c nL D cs A n0 a0 Q pc cells slots (o_call (MetP l d y cc' maxL rt' 0 0) (some ci) (n + 1) ρ k) := by
  intro ad ls L st h H locs hg hl hP hD hS hB
  obtain ⟨as0, rest, hst, hlen, hB⟩ := popN_spec _ _ _ _ hB
  rw [List.append_nil] at hB
  unfold rcK at hB
  dsimp only at hB
  split at hB
  case h_2 => exact hB.elim
  rename_i a as
  split at hB
  case h_2 => exact hB.elim
  rename_i cj fs he
  split at hB
  case h_2 => exact hB.elim
  rename_i hcj
  rw [nth_eq] at he
  cases Nat.eq_of_beq_eq_true hcj
  obtain ⟨hle, hnd, hB⟩ := hB
  obtain ⟨hc, hB, hcl, hcs⟩ := pick_spec _ _ _ _ _ hB
  rw [unL_eq] at hB
  obtain ⟨post, hM, hB⟩ := hB
  have hsub := sub_cW (cs := cs) (ad := ad) hcl hcs
  have hfree := va_free (wc := cW cs (adc ρ 0 ad) hc) hD hS X.2.2.2.2.2.2.2.1 ρ hsub
  have hroom : 2 * (F0 m pc ls (st.map (cV ad))).monitorRoom + ((rest.map (cV ad)).map fun v => v.category).sum ≤ 8 := lv_room (by rw [cV_sum]; exact Nat.ble_eq.mp hle)
  obtain ⟨hL1, ⟨host, hL2⟩, hL3, hL4, hL5⟩ := hL
  have hrecv : ∃ cellB : Cell, H[ad a]? = some cellB ∧ cellB.vm.isStatics = false ∧ s.vm.findClass y.cls = some cellB.cls := by
    obtain ⟨T0, N0, hci⟩ := hL5
    exact va_recv X.2.2.2.2.2.2.1 hP hci (cW_get he)
  have hstk : st.map (cV ad) = (as.map (cV ad)).reverse ++ .ref (ad a) :: rest.map (cV ad) := by rw [hst]; simp [cV]
  have hn1 : (as.map (cV ad)).length = n := by simpa using hlen
  exact p_call (A1 := va_A (cW cs (adc ρ 0 ad) hc) H.size) (n1 := hc.length) (a1 := adc ρ 0 ad) (post := post) (rest := rest.map (cV ad)) (mc := 0) (ms := 0) (va_runVN (C := y.cls) (b := ad a) (As := as.map (cV ad)) ⟨X.1, X.2.1, X.2.2.1, X.2.2.2.1, X.2.2.2.2.1⟩ (hM D cs (adc ρ 0 ad) H.size) ⟨X.callN hL1 hR hL2, X.2.2.2.2.1 _ hL3, X.2.2.2.2.1 _ hL4⟩ ⟨pre_blind, hrecv, X.pre (as := .inr (some a) :: as) hP hD hnd hsub⟩ rfl hn1 hl.1 hstk hroom hd ⟨hc0, hs0⟩) hS hfree (fun r h' ad' H1 locs1 hp hg1 hP1 hD1 hk1 hS1 => p_after0 X hg hl hP hD hS hnd hcl hsub hg1 hP1 hD1 hk1 hS1 (hB r h' hp) hk)

theorem ok_callU (X : MC p s m args meth c own nm cc nL rt D cs A) {d idx n maxL ci : Nat} {C : String} {x y : MethodName} {cc' : ByteArray} {rt' : Option FieldType} {ρ : List Nat} (hd : decode cc pc = .ok (.invokevirtual idx, 3)) (hL : MLU own idx ci C x y cc' maxL rt' n) (hR : d + 1 ≤ R.frames ∧ 8 + (maxL + 11) + 64 * d ≤ R.locals) (hc0 : cells ≤ R.cells) (hs0 : slots ≤ R.slots) (hk : BK p l e R s m args below meth c nL D cs A n0 a0 Q (pc + 3) cells slots k) : BK p l e R s m args below meth c nL D cs A n0 a0 Q pc cells slots (o_call (MetP l d y cc' maxL rt' 0 0) (some ci) (n + 1) ρ k) := by
  intro ad ls L st h H locs hg hl hP hD hS hB
  obtain ⟨as0, rest, hst, hlen, hB⟩ := popN_spec _ _ _ _ hB
  rw [List.append_nil] at hB
  unfold rcK at hB
  dsimp only at hB
  split at hB
  case h_2 => exact hB.elim
  rename_i a as
  split at hB
  case h_2 => exact hB.elim
  rename_i cj fs he
  split at hB
  case h_2 => exact hB.elim
  rename_i hcj
  rw [nth_eq] at he
  cases Nat.eq_of_beq_eq_true hcj
  obtain ⟨hle, hnd, hB⟩ := hB
  obtain ⟨hc, hB, hcl, hcs⟩ := pick_spec _ _ _ _ _ hB
  rw [unL_eq] at hB
  obtain ⟨post, hM, hB⟩ := hB
  have hsub := sub_cW (cs := cs) (ad := ad) hcl hcs
  have hfree := va_free (wc := cW cs (adc ρ 0 ad) hc) hD hS X.2.2.2.2.2.2.2.1 ρ hsub
  have hroom : 2 * (F0 m pc ls (st.map (cV ad))).monitorRoom + ((rest.map (cV ad)).map fun v => v.category).sum ≤ 8 := lv_room (by rw [cV_sum]; exact Nat.ble_eq.mp hle)
  obtain ⟨hL1, hL2, hL3, hL4, hL5, hL6, hL7, hL8⟩ := hL
  have hyx : y = ⟨y.cls, x.name, x.desc⟩ := by rw [← hL2, ← hL3]
  have hcw : va_CU R s args own C y.cls idx x y cc' maxL rt' (Cond.code y cc' maxL rt' :: TB) (rmD d 0 0) 0 0 n := by
    refine ⟨⟨rfl, rfl, hR.1, hR.2, pay_in (big := TB) X.2.2.2.2.1 (fun w hw => by
      rcases List.mem_cons.mp hw with rfl | hw
      · exact ⟨hL1.1, TB_good hL1.1⟩
      · exact ⟨hw, TB_good hw⟩), List.mem_cons_self⟩, X.2.2.2.2.1 _ hL1.1, X.2.2.2.2.1 _ hL1.2.1, ⟨hL1.2.2.1, hL1.2.2.2.1⟩, len_of (by rw [← hL3]; exact hL1.2.2.2.2), X.2.2.2.2.1 _ hL4, X.2.2.2.2.1 _ hL5, ?_, X.2.2.2.2.1 _ hL7, X.2.2.2.2.1 _ hL6⟩
    rw [← hyx]
    exact va_Decl.of (X.2.2.2.2.1 _ hL6) (X.2.2.2.2.1 _ hL1.1)
  have hrecv : ∃ cellB : Cell, H[ad a]? = some cellB ∧ cellB.vm.isStatics = false ∧ s.vm.findClass C = some cellB.cls := by
    obtain ⟨T0, N0, hci⟩ := hL8
    exact va_recv X.2.2.2.2.2.2.1 hP hci (cW_get he)
  have hstk : st.map (cV ad) = (as.map (cV ad)).reverse ++ .ref (ad a) :: rest.map (cV ad) := by rw [hst]; simp [cV]
  have hn1 : (as.map (cV ad)).length = n := by simpa using hlen
  exact p_call (A1 := va_A (cW cs (adc ρ 0 ad) hc) H.size) (n1 := hc.length) (a1 := adc ρ 0 ad) (post := post) (rest := rest.map (cV ad)) (mc := 0) (ms := 0) (va_runU (C := C) (b := ad a) (As := as.map (cV ad)) ⟨X.1, X.2.1, X.2.2.1, X.2.2.2.1, X.2.2.2.2.1⟩ (hM D cs (adc ρ 0 ad) H.size) hcw ⟨pre_blind, hrecv, X.pre (as := .inr (some a) :: as) hP hD hnd hsub⟩ rfl hn1 hl.1 hstk hroom hd ⟨hc0, hs0⟩) hS hfree (fun r h' ad' H1 locs1 hp hg1 hP1 hD1 hk1 hS1 => p_after0 X hg hl hP hD hS hnd hcl hsub hg1 hP1 hD1 hk1 hS1 (hB r h' hp) hk)

theorem ok_callS (X : MC p s m args meth c own nm cc nL rt D cs A) {d idx n maxL : Nat} {y : MethodName} {cc' : ByteArray} {rt' : Option FieldType} {ρ : List Nat} (hd : decode cc pc = .ok (.invokestatic idx, 3)) (hL : MLS own idx y cc' maxL rt' n) (hR : d + 1 ≤ R.frames ∧ 8 + (maxL + 11) + 64 * d ≤ R.locals) (hc0 : cells ≤ R.cells) (hs0 : slots ≤ R.slots) (hk : BK p l e R s m args below meth c nL D cs A n0 a0 Q (pc + 3) cells slots k) : BK p l e R s m args below meth c nL D cs A n0 a0 Q pc cells slots (o_call (MetP l d y cc' maxL rt' 0 0) none n ρ k) := by
  intro ad ls L st h H locs hg hl hP hD hS hB
  obtain ⟨as0, rest, hst, hlen, hB⟩ := popN_spec _ _ _ _ hB
  rw [List.append_nil] at hB
  have hB : Nat.ble rest.length 8 = true ∧ va_nd ρ = true ∧ pick ρ 0 h ρ _ := hB
  obtain ⟨hle, hnd, hB⟩ := hB
  obtain ⟨hc, hB, hcl, hcs⟩ := pick_spec _ _ _ _ _ hB
  rw [unL_eq] at hB
  obtain ⟨post, hM, hB⟩ := hB
  have hsub := sub_cW (cs := cs) (ad := ad) hcl hcs
  have hfree := va_free (wc := cW cs (adc ρ 0 ad) hc) hD hS X.2.2.2.2.2.2.2.1 ρ hsub
  have hroom : 2 * (F0 m pc ls (st.map (cV ad))).monitorRoom + ((rest.map (cV ad)).map fun v => v.category).sum ≤ 8 := lv_room (by rw [cV_sum]; exact Nat.ble_eq.mp hle)
  have hstk : st.map (cV ad) = (as0.map (cV ad)).reverse ++ rest.map (cV ad) := by rw [hst]; simp
  have hn1 : (as0.map (cV ad)).length = n := by simpa using hlen
  exact p_call (A1 := va_A (cW cs (adc ρ 0 ad) hc) H.size) (n1 := hc.length) (a1 := adc ρ 0 ad) (post := post) (rest := rest.map (cV ad)) (mc := 0) (ms := 0) (va_runS (As := as0.map (cV ad)) ⟨X.1, X.2.1, X.2.2.1, X.2.2.2.1, X.2.2.2.2.1⟩ (hM D cs (adc ρ 0 ad) H.size) ⟨X.callB hL.1 hR (X.2.2.2.2.1 _ hL.2.1), X.2.2.2.2.1 _ hL.2.2⟩ ⟨pre_blind, X.pre (as := as0) hP hD hnd hsub⟩ rfl hn1 hl.1 hstk hroom hd ⟨hc0, hs0⟩) hS hfree (fun r h' ad' H1 locs1 hp hg1 hP1 hD1 hk1 hS1 => p_after0 X hg hl hP hD hS hnd hcl hsub hg1 hP1 hD1 hk1 hS1 (hB r h' hp) hk)

theorem ok_callSN (X : MC p s m args meth c own nm cc nL rt D cs A) {d idx n maxL : Nat} {y : MethodName} {cc' : ByteArray} {rt' : Option FieldType} {ρ : List Nat} (hd : decode cc pc = .ok (.invokestatic idx, 3)) (hL : MLSN own idx y cc' maxL rt' n) (hR : d + 1 ≤ R.frames ∧ 8 + (maxL + 11) + 64 * d ≤ R.locals) (hc0 : cells ≤ R.cells) (hs0 : slots ≤ R.slots) (hk : BK p l e R s m args below meth c nL D cs A n0 a0 Q (pc + 3) cells slots k) : BK p l e R s m args below meth c nL D cs A n0 a0 Q pc cells slots (o_call (MetP l d y cc' maxL rt' 0 0) none n ρ k) := by
  intro ad ls L st h H locs hg hl hP hD hS hB
  obtain ⟨as0, rest, hst, hlen, hB⟩ := popN_spec _ _ _ _ hB
  rw [List.append_nil] at hB
  have hB : Nat.ble rest.length 8 = true ∧ va_nd ρ = true ∧ pick ρ 0 h ρ _ := hB
  obtain ⟨hle, hnd, hB⟩ := hB
  obtain ⟨hc, hB, hcl, hcs⟩ := pick_spec _ _ _ _ _ hB
  rw [unL_eq] at hB
  obtain ⟨post, hM, hB⟩ := hB
  have hsub := sub_cW (cs := cs) (ad := ad) hcl hcs
  have hfree := va_free (wc := cW cs (adc ρ 0 ad) hc) hD hS X.2.2.2.2.2.2.2.1 ρ hsub
  have hroom : 2 * (F0 m pc ls (st.map (cV ad))).monitorRoom + ((rest.map (cV ad)).map fun v => v.category).sum ≤ 8 := lv_room (by rw [cV_sum]; exact Nat.ble_eq.mp hle)
  obtain ⟨hL1, ⟨host, hL2⟩, hL3⟩ := hL
  have hstk : st.map (cV ad) = (as0.map (cV ad)).reverse ++ rest.map (cV ad) := by rw [hst]; simp
  have hn1 : (as0.map (cV ad)).length = n := by simpa using hlen
  exact p_call (A1 := va_A (cW cs (adc ρ 0 ad) hc) H.size) (n1 := hc.length) (a1 := adc ρ 0 ad) (post := post) (rest := rest.map (cV ad)) (mc := 0) (ms := 0) (va_runSN (As := as0.map (cV ad)) ⟨X.1, X.2.1, X.2.2.1, X.2.2.2.1, X.2.2.2.2.1⟩ (hM D cs (adc ρ 0 ad) H.size) ⟨X.callN hL1 hR hL2, X.2.2.2.2.1 _ hL3, trivial⟩ ⟨pre_blind, X.pre (as := as0) hP hD hnd hsub⟩ rfl hn1 hl.1 hstk hroom hd ⟨hc0, hs0⟩) hS hfree (fun r h' ad' H1 locs1 hp hg1 hP1 hD1 hk1 hS1 => p_after0 X hg hl hP hD hS hnd hcl hsub hg1 hP1 hD1 hk1 hS1 (hB r h' hp) hk)

end CALLS2
end
section
/-! ===== what makes cells: new arrays, new objects, constructors; switches; Object's own constructor; arraycopy ===== -/
theorem okand {a b c : Bool} (h : (a && b && c) = true) : a = true ∧ b = true ∧ c = true := by
  simp only [Bool.and_eq_true] at h
  exact ⟨h.1.1, h.1.2, h.2⟩
/-- one address more -/
def adp (ad : Nat → Nat) (n q : Nat) (j : Nat) : Nat := if j = n then q else ad j
theorem adp_out {ad : Nat → Nat} {n q : Nat} : ∀ i, (i < n ∨ n + 1 ≤ i) → adp ad n q i = ad i := fun i h => if_neg (by omega)
/-- B addresses more -/
def adB (ad ad' : Nat → Nat) (n nh B : Nat) (j : Nat) : Nat := if nh ≤ j ∧ j < nh + B then ad' (n + (j - nh)) else ad j
theorem adB_out {ad ad' : Nat → Nat} {n nh B : Nat} : ∀ i, (i < nh ∨ nh + B ≤ i) → adB ad ad' n nh B i = ad i := fun i h => if_neg (by omega)
theorem cV_reB {ρ : List Nat} {B nh : Nat} {ad ad' : Nat → Nat} (hg : ag ρ.length (adc ρ B ad) ad' (ρ.length + B)) (hlt : ∀ (i a : Nat), ρ[i]? = some a → a < nh) {v : PV} (hv : okV (ρ.length + B + nh) (ρ.length + B + nh + B) v = true) : cV ad' v = cV (adB ad ad' ρ.length nh B) (re1 ρ B nh v) := by
  rcases v with x | _ | i
  · rfl
  · rfl
  · simp only [okV, Bool.or_eq_true] at hv
    have hv : i < ρ.length + B + nh ∨ ρ.length + B + nh + B ≤ i := hv.imp (fun z => by simpa using z) (fun z => by simpa using z)
    unfold re1
    dsimp only
    split
    · rename_i a ha
      rw [nth_eq] at ha
      have hi : i < ρ.length := (List.getElem?_eq_some_iff.mp ha).1
      show Value.ref (ad' i) = .ref (adB ad ad' ρ.length nh B a)
      rw [adB_out a (Or.inl (hlt i a ha)), hg.2 i (Or.inl hi)]
      unfold adc
      rw [ha]
    · rename_i ha
      rw [nth_eq] at ha
      have hl : ρ.length ≤ i := by simpa using ha
      split
      · rename_i hb
        have hb := Nat.blt_eq.mp hb
        show Value.ref (ad' i) = .ref (adB ad ad' ρ.length nh B (nh + (i - ρ.length)))
        unfold adB
        rw [if_pos (by omega)]
        congr 2
        omega
      · rename_i hb
        have hb : ρ.length + B ≤ i := by
          rcases Nat.lt_or_ge i (ρ.length + B) with z | z
          · rw [Nat.blt_eq.mpr z] at hb; cases hb
          · exact z
        show Value.ref (ad' i) = .ref (adB ad ad' ρ.length nh B (i - (ρ.length + B)))
        rw [adB_out _ (by omega), hg.2 i (Or.inr hb)]
        unfold adc
        rw [ha]
theorem cE_reB {cs : Nat → ClassId} {ρ : List Nat} {B nh : Nat} {ad ad' : Nat → Nat} (hg : ag ρ.length (adc ρ B ad) ad' (ρ.length + B)) (hlt : ∀ (i a : Nat), ρ[i]? = some a → a < nh) : ∀ {h' : PH}, okH (ρ.length + B + nh) (ρ.length + B + nh + B) h' = true → ∀ (i : Nat) (e : PE), h'[i]? = some e → cE cs ad' e = cE cs (adB ad ad' ρ.length nh B) (re2 ρ B nh e)
  | [], _, i, e, he => by simp at he
  | .inl x :: h', h, i, e, he => by
    cases i with
    | zero => simp at he; subst he; rfl
    | succ i => exact cE_reB hg hlt (h' := h') h i e (by simpa using he)
  | .inr (ci, fs) :: h', h, i, e, he => by
    simp only [okH, Bool.and_eq_true] at h
    cases i with
    | zero =>
      simp at he
      subst he
      show Sum.inr (ci, fs.map (cV ad')) = Sum.inr (ci, (fs.map (re1 ρ B nh)).map (cV (adB ad ad' ρ.length nh B)))
      have hm : ∀ (l : List PV), okF (ρ.length + B + nh) (ρ.length + B + nh + B) l = true → l.map (cV ad') = (l.map (re1 ρ B nh)).map (cV (adB ad ad' ρ.length nh B)) := by
        intro l
        induction l with
        | nil => intro _; rfl
        | cons v l ih =>
          intro hl
          simp only [okF, Bool.and_eq_true] at hl
          rw [List.map_cons, List.map_cons, List.map_cons, ih hl.2, cV_reB hg hlt hl.1]
      rw [hm fs h.1]
    | succ i => exact cE_reB hg hlt (h' := h') h.2 i e (by simpa using he)
def nrF : List PV → Bool
  | [] => true
  | .inl _ :: l => nrF l
  | .inr none :: l => nrF l
  | .inr (some _) :: _ => false
theorem nrF_cV {b1 b2 : Nat → Nat} : ∀ {l : List PV}, nrF l = true → l.map (cV b1) = l.map (cV b2)
  | [], _ => rfl
  | .inl x :: l, h => by rw [List.map_cons, List.map_cons, nrF_cV (l := l) h]; rfl
  | .inr none :: l, h => by rw [List.map_cons, List.map_cons, nrF_cV (l := l) h]; rfl
  | .inr (some a) :: l, h => by cases h
def o_oini (k : Blk) : Blk := fun L st h => match st with
  | .inr (some _) :: r => Nat.ble r.length 8 = true ∧ k L r h
  | _ => False
def o_acopy (k : Blk) : Blk := fun L st h => match st with
  | .inl n :: .inl dp :: .inr (some a) :: .inl sp :: .inr (some a') :: r => match nth h a', nth h a with
    | some (.inl (0, n0, f)), some (.inl (0, n1, g)) => Nat.ble r.length 8 = true ∧ ¬ sp < 0 ∧ ¬ dp < 0 ∧ ¬ n < 0 ∧ sp.toNatClampNeg + n.toNatClampNeg ≤ n0 ∧ dp.toNatClampNeg + n.toNatClampNeg ≤ n1 ∧ put h a (.inl (0, n1, va_cpy f g sp.toNatClampNeg dp.toNatClampNeg n.toNatClampNeg)) (fun h' => k L r h')
    | _, _ => False
  | _ => False
def NA (ty : FieldType) (t : Nat) : Prop := Cond.arrayClass ty ∈ TB ∧ ((t = 0 ∧ ty = .int) ∨ (t = 1 ∧ ty = .byte) ∨ (t = 2 ∧ ty = .boolean))
def NO (own : String) (idx ci : Nat) (fs : List PV) : Prop := ∃ (C : String) (T : u_T) (N : Nat) (t0 : Nat → FieldType), vwCl[ci]? = some (C, T, N) ∧ fs.length = N ∧ (∀ w ∈ u_ws C T N, w ∈ TB) ∧ (∀ k, k < N → parseFieldDescriptor (T k).2.2.1 = some (t0 k)) ∧ Cond.classLink own idx C ∈ TB ∧ Cond.instantiable C N ∈ TB ∧ Cond.initialized C ∈ TB ∧ ∀ (ad : Nat → Nat) (j : Nat), j < N → defaultValue (t0 j) = vp_V (fs.map (cV ad)) j
section ALLOC
variable {p : Program} {l : Launch} {e : Env} {R : Room} {s : State} {m : MethodId} {args : Array Value} {below : List Frame} {meth : Method} {c : Code} {own nm : String} {cc : ByteArray} {nL : Nat} {rt : Option FieldType} {D : va_G} {cs : Nat → ClassId} {A : Nat → Prop} {n0 : Nat} {a0 : Nat → Nat} {Q : State → Prop} {pc cells slots : Nat} {k kt kf : Blk}
/-- behind a new cell -/
theorem p_new {ad : Nat → Nat} {ls : Array Slot} {L : PL} {st : List PV} {h : PH} {H1 : Heap} {locs1 : List Loc} {e0 : PE} {q pc' cells' slots' : Nat} (hg : ag n0 a0 ad h.length) (hl : plr ad ls nL L) (ho : (okL h.length (h.length + 1) L && okF h.length (h.length + 1) st && okH h.length (h.length + 1) h) = true) (he : cE cs (adp ad h.length q) e0 = cE cs ad e0)
    (hP : va_P D vwCl (cW cs ad h ++ [(q, cE cs ad e0)]) H1) (hD : va_D A (cW cs ad h ++ [(q, cE cs ad e0)])) (hS : va_S A s.heap H1 locs1) (hB : k L (.inr (some h.length) :: st) (h ++ [e0])) (hk : BK p l e R s m args below meth c nL D cs A n0 a0 Q pc' cells' slots' k) : W p l e R s m args below meth c H1 locs1 cells' slots' Q (F0 m pc' ls (.ref q :: st.map (cV ad))) := by
  obtain ⟨o1, o2, o3⟩ := okand ho
  have ew : cW cs (adp ad h.length q) (h ++ [e0]) = cW cs ad h ++ [(q, cE cs ad e0)] := by
    rw [cW_push, okH_cW _ adp_out (Nat.le_refl _) o3, he]
    unfold adp
    rw [if_pos rfl]
  have h9 := hk (adp ad h.length q) ls L (.inr (some h.length) :: st) (h ++ [e0]) H1 locs1 ⟨by simp; have := hg.1; omega, fun i hi => by
    rw [List.length_append] at hi
    have hi : i < n0 ∨ h.length + 1 ≤ i := hi
    have h1 := hg.1
    rw [adp_out i (by omega)]
    exact hg.2 i (by omega)⟩ (hl.moved adp_out o1) (by rw [ew]; exact hP) (by rw [ew]; exact hD) hS hB
  rw [List.map_cons, okF_cV adp_out o2] at h9
  have h8 : cV (adp ad h.length q) (.inr (some h.length)) = .ref q := by
    show Value.ref (adp ad h.length q h.length) = _
    unfold adp
    rw [if_pos rfl]
  rw [h8] at h9
  exact h9
theorem ofNat_lit {N : Nat} (h : N < 2 ^ 31) : ¬ (Int32.ofNat N < 0) ∧ (Int32.ofNat N).toNatClampNeg = N := ⟨nI_pos h, nI_clamp h⟩
theorem ok_newa (X : MC p s m args meth c own nm cc nL rt D cs A) {at_ : ArrayType} {t N : Nat} (hd : decode cc pc = .ok (.newarray at_, 2)) (hw : NA (newarray.typeOf at_) t) (hN : N < 100000) (hc : cells + 1 ≤ R.cells) (hs : slots + N ≤ R.slots) (hk : BK p l e R s m args below meth c nL D cs A n0 a0 Q (pc + 2) (cells + 1) (slots + N) k) : BK p l e R s m args below meth c nL D cs A n0 a0 Q pc cells slots (o_newa t N k) := by
  intro ad ls L st h H locs hg hl hP hD hS hB
  unfold o_newa at hB
  split at hB
  · rename_i n r
    obtain ⟨rfl, ho, hB⟩ := hB
    have hB := snoc_spec _ _ _ hB
    obtain ⟨hn1, hn2⟩ := ofNat_lit (N := N) (by omega)
    have hcls : ∀ (cA : ClassId), s.vm.findClass ("[" ++ (newarray.typeOf at_).toString) = some cA → cA = cs t := by
      intro cA hcA
      have hK := X.2.2.2.2.2.2.1
      rcases hw.2 with ⟨rfl, h2⟩ | ⟨rfl, h2⟩ | ⟨rfl, h2⟩
      · have h3 : s.vm.findClass ("[" ++ FieldType.int.toString) = some (cs 0) := (hK.2 0 _ rfl).2
        rw [h2] at hcA
        exact Option.some.inj (hcA.symm.trans h3)
      · have h3 : s.vm.findClass ("[" ++ FieldType.byte.toString) = some (cs 1) := (hK.2 1 _ rfl).2
        rw [h2] at hcA
        exact Option.some.inj (hcA.symm.trans h3)
      · have h3 : s.vm.findClass ("[" ++ FieldType.boolean.toString) = some (cs 2) := (hK.2 2 _ rfl).2
        rw [h2] at hcA
        exact Option.some.inj (hcA.symm.trans h3)
    have hdv : (fun _ : Nat => defaultValue (newarray.typeOf at_)) = fun _ : Nat => Value.int 0 := by
      rcases hw.2 with ⟨-, h2⟩ | ⟨-, h2⟩ | ⟨-, h2⟩ <;> rw [h2] <;> rfl
    have hcb : componentBytes (newarray.typeOf at_) ≤ 4 := by
      rcases hw.2 with ⟨-, h2⟩ | ⟨-, h2⟩ | ⟨-, h2⟩ <;> rw [h2] <;> decide +kernel
    refine va_newaK X.1 X.2.1 (X.2.2.2.2.1 _ hw.1) rfl hd (n := Int32.ofNat N) (N := N) (rest := r.map (cV ad)) rfl hn1 hn2 (by have := Nat.mul_le_mul (Nat.le_of_lt hN) hcb; omega) hc hs rfl (fun H1 cA e1 z1 o1 hAr hNm => ?_)
    have hcA := hcls cA hNm
    subst hcA
    have hkk : ∀ (j : Nat) (x : Nat × va_E), (cW cs ad h)[j]? = some x → H1[x.1]? = H[x.1]? := fun j x hx => o1 x.1 ((hP j x hx).lt)
    refine p_new (e0 := .inl (t, N, fun _ => 0)) (q := H.size) hg hl ho rfl ((hP.kept hkk).app (fun j x hx => ?_)) (hD.push hP rfl (X.2.2.2.2.2.2.2.1 _ hS.1)) ⟨Nat.le_trans hS.1 (by omega), fun x h1 h2 => (o1 x (Nat.lt_of_lt_of_le h1 hS.1)).trans (hS.2.1 x h1 h2), hS.2.2⟩ hB hk
    have hz : j < 1 := (List.getElem?_eq_some_iff.mp hx).1
    rw [show j = 0 by omega] at hx
    cases hx
    show H1[H.size]? = some (vp_cell (cs t) (N, .inl fun _ => 0))
    rw [vp_cell_i, e1, hdv]
  · exact hB.elim
theorem ok_new (X : MC p s m args meth c own nm cc nL rt D cs A) {idx ci N : Nat} {fs : List PV} (hd : decode cc pc = .ok (.new idx, 3)) (hw : NO own idx ci fs) (hN : fs.length = N) (hc : cells + 1 ≤ R.cells) (hs : slots + N ≤ R.slots) (hfs : nrF fs = true) (hk : BK p l e R s m args below meth c nL D cs A n0 a0 Q (pc + 3) (cells + 1) (slots + N) k) : BK p l e R s m args below meth c nL D cs A n0 a0 Q pc cells slots (o_new ci fs k) := by
  intro ad ls L st h H locs hg hl hP hD hS hB
  obtain ⟨C, T, N', t0, w1, w2, w3, w4, w5, w6, w7, w8⟩ := hw
  obtain ⟨ho, hB⟩ := hB
  have hB := snoc_spec _ _ _ hB
  have hNN : N' = N := w2.symm.trans hN
  subst hNN
  refine va_new (fs := fs.map (cV ad)) X.1 X.2.1 X.2.2.2.2.1 w3 t0 w4 X.2.2.2.1 (X.2.2.2.2.1 _ w5) (X.2.2.2.2.1 _ w6) (X.2.2.2.2.1 _ w7) X.2.2.2.2.2.2.1 hP hD hS X.2.2.2.2.2.2.2.1 w1 (w8 ad) hc hs hd (fun q H1 hP1 hD1 hS1 => ?_)
  refine p_new (e0 := .inr (ci, fs)) hg hl ho ?_ hP1 hD1 hS1 hB hk
  show Sum.inr (ci, fs.map (cV _)) = Sum.inr (ci, fs.map (cV ad))
  rw [nrF_cV hfs]
theorem ok_sw0 (X : MC p s m args meth c own nm cc nL rt D cs A) {dflt : Int} {ps : Array (Int × Int)} {len tgt : Nat} (hd : decode cc pc = .ok (.lookupswitch dflt ps, len)) (hp : (ps.toList.zip (ps.toList.drop 1)).all (fun (a, next) => a.1 < next.1) = true) (kd : Blk) (ht : (pc : Int) + dflt = (tgt : Int)) (hkd : BK p l e R s m args below meth c nL D cs A n0 a0 Q tgt cells slots kd) :
    ∀ (ks : List (Int32 × Blk)) (qs : List (Int × Int)) (ts : List Nat), qs.length = ks.length → ts.length = ks.length → (∀ (i : Nat) (v : Int32) (kb : Blk) (a o : Int) (t : Nat), ks[i]? = some (v, kb) → qs[i]? = some (a, o) → ts[i]? = some t → v.toInt = a ∧ (pc : Int) + o = (t : Int) ∧ BK p l e R s m args below meth c nL D cs A n0 a0 Q t cells slots kb) →
    ∀ (ad : Nat → Nat) (ls : Array Slot) (L : PL) (x : Int32) (r : List PV) (h : PH) (H : Heap) (locs : List Loc), ag n0 a0 ad h.length → plr ad ls nL L → va_P D vwCl (cW cs ad h) H → va_D A (cW cs ad h) → va_S A s.heap H locs → Op.lookupswitch.offset ps.toList dflt x.toInt = Op.lookupswitch.offset qs dflt x.toInt → o_sw kd ks L (.inl x :: r) h → W p l e R s m args below meth c H locs cells slots Q (F0 m pc ls (.int x :: r.map (cV ad)))
  | [], qs, ts, hq, hts, hks, ad, ls, L, x, r, h, H, locs, hg, hl, hP, hD, hS, ho, hB => by
    have : qs = [] := List.eq_nil_of_length_eq_zero hq
    subst this
    exact lv_lookup X.1 X.2.1 hd hp (ho.trans rfl) ht (hkd ad ls L r h H locs hg hl hP hD hS hB)
  | (v, kb) :: ks, [], ts, hq, hts, hks, ad, ls, L, x, r, h, H, locs, hg, hl, hP, hD, hS, ho, hB => by cases hq
  | (v, kb) :: ks, (a, o) :: qs, [], hq, hts, hks, ad, ls, L, x, r, h, H, locs, hg, hl, hP, hD, hS, ho, hB => by cases hts
  | (v, kb) :: ks, (a, o) :: qs, t :: ts, hq, hts, hks, ad, ls, L, x, r, h, H, locs, hg, hl, hP, hD, hS, ho, hB => by
    have hB : (x = v → kb L r h) ∧ (¬ x = v → o_sw kd ks L (.inl x :: r) h) := hB
    obtain ⟨h1, h2, h3⟩ := hks 0 v kb a o t rfl rfl rfl
    by_cases hx : x = v
    · refine lv_lookup X.1 X.2.1 hd hp (off := o) (ho.trans ?_) h2 (h3 ad ls L r h H locs hg hl hP hD hS (hB.1 hx))
      rw [Op.lookupswitch.offset_cons, if_pos (by rw [hx, h1])]
    · refine ok_sw0 X hd hp kd ht hkd ks qs ts (by simpa using hq) (by simpa using hts) (fun i v' kb' a' o' t' g1 g2 g3 => hks (i + 1) v' kb' a' o' t' (by simpa using g1) (by simpa using g2) (by simpa using g3)) ad ls L x r h H locs hg hl hP hD hS ?_ (hB.2 hx)
      rw [ho]
      exact lv_osw hx h1
theorem ok_lsw (X : MC p s m args meth c own nm cc nL rt D cs A) {dflt : Int} {ps : Array (Int × Int)} {len tgt : Nat} (hd : decode cc pc = .ok (.lookupswitch dflt ps, len)) (hp : (ps.toList.zip (ps.toList.drop 1)).all (fun (a, next) => a.1 < next.1) = true) {kd : Blk} (ht : (pc : Int) + dflt = (tgt : Int)) {ks : List (Int32 × Blk)} (ts : List Nat) (hq : ps.toList.length = ks.length) (hts : ts.length = ks.length) (hkd : BK p l e R s m args below meth c nL D cs A n0 a0 Q tgt cells slots kd) (hks : ∀ (i : Nat) (v : Int32) (kb : Blk) (a o : Int) (t : Nat), ks[i]? = some (v, kb) → ps.toList[i]? = some (a, o) → ts[i]? = some t → v.toInt = a ∧ (pc : Int) + o = (t : Int) ∧ BK p l e R s m args below meth c nL D cs A n0 a0 Q t cells slots kb) : BK p l e R s m args below meth c nL D cs A n0 a0 Q pc cells slots (o_sw kd ks) := by
  intro ad ls L st h H locs hg hl hP hD hS hB
  have hst : ∃ (x : Int32) (r : List PV), st = .inl x :: r := by
    cases ks with
    | nil =>
      unfold o_sw at hB
      split at hB
      · exact ⟨_, _, rfl⟩
      · exact hB.elim
    | cons q ks =>
      obtain ⟨v, kb⟩ := q
      unfold o_sw at hB
      split at hB
      · exact ⟨_, _, rfl⟩
      · exact hB.elim
  obtain ⟨x, r, rfl⟩ := hst
  exact ok_sw0 X hd hp kd ht hkd ks ps.toList ts hq hts hks ad ls L x r h H locs hg hl hP hD hS rfl hB
/-- a table: the places from v0 on -/
theorem ok_tsw0 (X : MC p s m args meth c own nm cc nL rt D cs A) {dflt lo hi : Int} {offs : Array Int} {len tgt : Nat} (hd : decode cc pc = .ok (.tableswitch dflt lo hi offs, len)) (kd : Blk) (ht : (pc : Int) + dflt = (tgt : Int)) (hkd : BK p l e R s m args below meth c nL D cs A n0 a0 Q tgt cells slots kd) :
    ∀ (ks : List (Int32 × Blk)) (b : Nat) (ts : List Nat), lo + (b + ks.length : Nat) = hi + 1 → ts.length = ks.length → (∀ (i : Nat) (v : Int32) (kb : Blk) (t : Nat), ks[i]? = some (v, kb) → ts[i]? = some t → v.toInt = lo + (b + i : Nat) ∧ (∃ o : Int, offs[b + i]? = some o ∧ (pc : Int) + o = (t : Int)) ∧ BK p l e R s m args below meth c nL D cs A n0 a0 Q t cells slots kb) →
    ∀ (ad : Nat → Nat) (ls : Array Slot) (L : PL) (x : Int32) (r : List PV) (h : PH) (H : Heap) (locs : List Loc), ag n0 a0 ad h.length → plr ad ls nL L → va_P D vwCl (cW cs ad h) H → va_D A (cW cs ad h) → va_S A s.heap H locs → (x.toInt < lo ∨ lo + (b : Nat) ≤ x.toInt) → o_sw kd ks L (.inl x :: r) h → W p l e R s m args below meth c H locs cells slots Q (F0 m pc ls (.int x :: r.map (cV ad)))
  | [], b, ts, hlen, hts, hks, ad, ls, L, x, r, h, H, locs, hg, hl, hP, hD, hS, ho, hB => by
    exact lv_tableOut X.1 X.2.1 hd (by simp at hlen; omega) ht (hkd ad ls L r h H locs hg hl hP hD hS hB)
  | (v, kb) :: ks, b, [], hlen, hts, hks, ad, ls, L, x, r, h, H, locs, hg, hl, hP, hD, hS, ho, hB => by cases hts
  | (v, kb) :: ks, b, t :: ts, hlen, hts, hks, ad, ls, L, x, r, h, H, locs, hg, hl, hP, hD, hS, ho, hB => by
    have hB : (x = v → kb L r h) ∧ (¬ x = v → o_sw kd ks L (.inl x :: r) h) := hB
    obtain ⟨h1, ⟨o, h2, h2'⟩, h3⟩ := hks 0 v kb t rfl rfl
    rw [List.length_cons] at hlen
    by_cases hx : x = v
    · subst hx
      refine lv_tableIn X.1 X.2.1 hd (off := o) (by omega) (by omega) ?_ h2' (h3 ad ls L r h H locs hg hl hP hD hS (hB.1 rfl))
      rw [← h2]
      congr 1
      omega
    · refine ok_tsw0 X hd kd ht hkd ks (b + 1) ts (by rw [← hlen]; congr 1; omega) (by simpa using hts) (fun i v' kb' t' g1 g3 => ?_) ad ls L x r h H locs hg hl hP hD hS ?_ (hB.2 hx)
      · rw [show b + 1 + i = b + (i + 1) by omega]
        exact hks (i + 1) v' kb' t' (by simpa using g1) (by simpa using g3)
      · have : ¬ x.toInt = v.toInt := fun z => hx (Int32.toInt_inj.mp z)
        omega
theorem ok_tsw (X : MC p s m args meth c own nm cc nL rt D cs A) {dflt lo hi : Int} {offs : Array Int} {len tgt : Nat} (hd : decode cc pc = .ok (.tableswitch dflt lo hi offs, len)) {kd : Blk} (ht : (pc : Int) + dflt = (tgt : Int)) {ks : List (Int32 × Blk)} (ts : List Nat) (hlen : lo + (ks.length : Nat) = hi + 1) (hts : ts.length = ks.length) (hkd : BK p l e R s m args below meth c nL D cs A n0 a0 Q tgt cells slots kd) (hks : ∀ (i : Nat) (v : Int32) (kb : Blk) (t : Nat), ks[i]? = some (v, kb) → ts[i]? = some t → v.toInt = lo + (i : Nat) ∧ (∃ o : Int, offs[i]? = some o ∧ (pc : Int) + o = (t : Int)) ∧ BK p l e R s m args below meth c nL D cs A n0 a0 Q t cells slots kb) : BK p l e R s m args below meth c nL D cs A n0 a0 Q pc cells slots (o_sw kd ks) := by
  intro ad ls L st h H locs hg hl hP hD hS hB
  have hst : ∃ (x : Int32) (r : List PV), st = .inl x :: r := by
    cases ks with
    | nil =>
      unfold o_sw at hB
      split at hB
      · exact ⟨_, _, rfl⟩
      · exact hB.elim
    | cons q ks =>
      obtain ⟨v, kb⟩ := q
      unfold o_sw at hB
      split at hB
      · exact ⟨_, _, rfl⟩
      · exact hB.elim
  obtain ⟨x, r, rfl⟩ := hst
  exact ok_tsw0 X hd kd ht hkd ks 0 ts (by simpa using hlen) hts (fun i v kb t g1 g2 => by simpa using hks i v kb t g1 g2) ad ls L x r h H locs hg hl hP hD hS (by omega) hB
theorem ok_oini (X : MC p s m args meth c own nm cc nL rt D cs A) {idx : Nat} (hd : decode cc pc = .ok (.invokespecial idx, 3)) (h1 : Cond.methodLink own idx Lib.objectInit ∈ TB) (h2 : Cond.instanceMethod Lib.objectInit ∈ TB) (h3 : Cond.code Lib.objectInit ⟨#[0xb1]⟩ 1 none ∈ TB) (hR : 1 ≤ R.frames ∧ 64 ≤ R.locals) (hk : BK p l e R s m args below meth c nL D cs A n0 a0 Q (pc + 3) cells slots k) : BK p l e R s m args below meth c nL D cs A n0 a0 Q pc cells slots (o_oini k) := by
  intro ad ls L st h H locs hg hl hP hD hS hB
  unfold o_oini at hB
  split at hB
  · rename_i a r
    refine W.objInit X.1 X.2.1 X.2.2.2.1 (X.2.2.2.2.1 _ h1) (X.2.2.2.2.1 _ h2) (X.2.2.2.2.1 _ h3) rfl (by rw [X.2.2.1]; exact hl.1) (rest := r.map (cV ad)) rfl hd hR.1 (by
      rw [cV_sum]
      have := Nat.ble_eq.mp hB.1
      have h0 : (F0 m pc ls (List.map (cV ad) (Sum.inr (some a) :: r))).monitorRoom = 0 := rfl
      rw [h0]
      omega) (hk ad ls L r h H locs hg hl hP hD hS hB.2)
  · exact hB.elim
/-- System.arraycopy of whole rows of ints -/
theorem ok_acopy (X : MC p s m args meth c own nm cc nL rt D cs A) {idx : Nat} (hd : decode cc pc = .ok (.invokestatic idx, 3)) (h1 : Cond.methodLink own idx arraycopyName ∈ TB) (h2 : Cond.native arraycopyName ∈ TB) (h3 : Cond.static arraycopyName ∈ TB) (h4 : Cond.initialized "java/lang/System" ∈ TB) (hR : 1 ≤ R.frames ∧ 64 ≤ R.locals) (hk : BK p l e R s m args below meth c nL D cs A n0 a0 Q (pc + 3) cells slots k) : BK p l e R s m args below meth c nL D cs A n0 a0 Q pc cells slots (o_acopy k) := by
  intro ad ls L st h H locs hg hl hP hD hS hB
  unfold o_acopy at hB
  split at hB
  · rename_i n dp a sp a' r
    split at hB
    · rename_i n0' f n1' g he0 he1
      rw [nth_eq] at he0 he1
      obtain ⟨b1, b2, b3, b4, b5, b6, hB⟩ := hB
      obtain ⟨q6, q7⟩ := put_spec _ _ _ _ hB
      refine va_copyi (ty := .int) X.1 X.2.1 (by rw [X.2.2.1]; exact hl.1.symm) X.2.2.2.1 (X.2.2.2.2.1 _ h1) (X.2.2.2.2.1 _ h2) (X.2.2.2.2.1 _ h3) (X.2.2.2.2.1 _ h4) X.2.2.2.2.2.2.1 hP hD hS a' a 0 0 (cW_get he0) (cW_get he1) rfl rfl rfl b2 b3 b4 b5 b6 (fun _ _ => rfl) hR.1 (by
        rw [cV_sum]
        have := Nat.ble_eq.mp b1
        have h0 : nativeFrameWords "java/lang/System" "arraycopy" 5 + 11 ≤ 40 := by decide +kernel
        omega) hd (fun H1 locs1 hP1 hD1 hS1 => ?_)
      exact hk ad ls L r _ H1 locs1 (by rw [List.length_set]; exact hg) hl (by rw [cW_set]; exact hP1) (by rw [cW_set]; exact hD1) hS1 q7
    · exact hB.elim
  · exact hB.elim
/-- behind a call that made B cells -/
theorem p_afterB (X : MC p s m args meth c own nm cc nL rt D cs A) {ad : Nat → Nat} {ls : Array Slot} {L : PL} {rest : List PV} {h hc h' : PH} {H H1 : Heap} {locs locs1 : List Loc} {ρ : List Nat} {B : Nat} {ad' : Nat → Nat} {cells' slots' : Nat} (hg : ag n0 a0 ad h.length) (hl : plr ad ls nL L) (hP : va_P D vwCl (cW cs ad h) H) (hD : va_D A (cW cs ad h)) (hS : va_S A s.heap H locs) (hnd : va_nd ρ = true) (ho : (okL h.length (h.length + B) L && okF h.length (h.length + B) rest && okH h.length (h.length + B) h) = true) (hcl : hc.length = ρ.length) (hsub : ρ.map (fun a => (cW cs ad h)[a]?) = (cW cs (adc ρ B ad) hc).map some)
    (hg1 : ag hc.length (adc ρ B ad) ad' h'.length) (hP1 : va_P D vwCl (cW cs ad' h') H1) (hD1 : va_D (va_A (cW cs (adc ρ B ad) hc) H.size) (cW cs ad' h')) (hk1 : ∀ q : Nat, q < H.size → ¬ va_A (cW cs (adc ρ B ad) hc) H.size q → H1[q]? = H[q]?) (hS1 : va_S A s.heap H1 locs1)
    (ho' : okH (ρ.length + B + h.length) (ρ.length + B + h.length + B) h' = true) (hB : wbK ρ B h.length ρ h' h (fun h2 => k L rest h2)) (hk : BK p l e R s m args below meth c nL D cs A n0 a0 Q (pc + 3) cells' slots' k) : W p l e R s m args below meth c H1 locs1 cells' slots' Q (F0 m (pc + 3) ls (rest.map (cV ad))) := by
  obtain ⟨o1, o2, o3⟩ := okand ho
  obtain ⟨h2, hB, hh1, hh2, hh3, hh4, hh5⟩ := wbK_spec ρ B h.length ρ h' h _ (nd_inj hnd) hB
  rw [hh1, hcl] at hg1
  have hlt : ∀ (i a : Nat), ρ[i]? = some a → a < h.length := fun i a hi => (hh3 i a hi).1
  have hre : ∀ (i : Nat) (e1 : PE), h'[i]? = some e1 → cE cs ad' e1 = cE cs (adB ad ad' ρ.length h.length B) (re2 ρ B h.length e1) := fun i e1 he => cE_reB hg1 hlt ho' i e1 he
  have hw := p_world (ad2 := adB ad ad' ρ.length h.length B) (h2 := h2) hP hD hS X.2.2.2.2.2.2.2.1 (nd_inj hnd) hsub hk1 hP1 hD1 (fun x q hq => by
    rw [cW_at] at hq
    cases he : h2[x]? with
    | none => rw [he] at hq; cases hq
    | some e2 =>
      rw [he] at hq
      have hq' : (adB ad ad' ρ.length h.length B x, cE cs (adB ad ad' ρ.length h.length B) e2) = q := by simpa using hq
      subst hq'
      by_cases hx : x ∈ ρ
      · obtain ⟨i, hi⟩ := List.getElem?_of_mem hx
        refine Or.inr ⟨i, Or.inl hi, ?_⟩
        have h3 := (hh3 i x hi).2
        rw [he] at h3
        cases he' : h'[i]? with
        | none => rw [he'] at h3; cases h3
        | some e1 =>
          rw [he'] at h3
          have h4 : e2 = re2 ρ B h.length e1 := by simpa using h3
          rw [cW_get he', h4, hre i e1 he', adB_out x (Or.inl (hlt i x hi)), hg1.2 i (Or.inl (List.getElem?_eq_some_iff.mp hi).1)]
          unfold adc
          rw [hi]
      · have hxl : x < h.length + B := by
          have := (List.getElem?_eq_some_iff.mp he).1
          omega
        by_cases hxh : x < h.length
        · refine Or.inl ⟨hx, ?_⟩
          rw [hh4 x hxh hx] at he
          rw [cW_get he, adB_out x (Or.inl hxh), okH_cE adB_out o3 x e2 he]
        · refine Or.inr ⟨ρ.length + (x - h.length), Or.inr ⟨by omega, by omega⟩, ?_⟩
          have h5 := hh5 (x - h.length) (by omega)
          rw [show h.length + (x - h.length) = x by omega, he] at h5
          cases he' : h'[ρ.length + (x - h.length)]? with
          | none => rw [he'] at h5; cases h5
          | some e1 =>
            rw [he'] at h5
            have h4 : e2 = re2 ρ B h.length e1 := by simpa using h5
            rw [cW_get he', h4, hre _ e1 he']
            congr 2
            unfold adB
            rw [if_pos (by omega)]) hlt
  have h9 := hk (adB ad ad' ρ.length h.length B) ls L rest h2 H1 locs1 ⟨by have := hg.1; omega, fun i hi => by
    rw [hh2] at hi
    have h1 := hg.1
    rw [adB_out i (by omega)]
    exact hg.2 i (by omega)⟩ (hl.moved adB_out o1) hw.1 hw.2 hS1 hB
  rw [okF_cV adB_out o2] at h9
  exact h9
theorem ok_callI (X : MC p s m args meth c own nm cc nL rt D cs A) {d idx n maxL B ms : Nat} {y : MethodName} {cc' : ByteArray} {ρ : List Nat} (hd : decode cc pc = .ok (.invokespecial idx, 3)) (hL : MLI own idx y cc' maxL n) (hR : d + 1 ≤ R.frames ∧ 8 + (maxL + 11) + 64 * d ≤ R.locals) (hc0 : cells + B ≤ R.cells) (hs0 : slots + ms ≤ R.slots) (hk : BK p l e R s m args below meth c nL D cs A n0 a0 Q (pc + 3) (cells + B) (slots + ms) k) : BK p l e R s m args below meth c nL D cs A n0 a0 Q pc cells slots (o_callA (MetP l d y cc' maxL none B ms) B (n + 1) ρ k) := by
  intro ad ls L st h H locs hg hl hP hD hS hB
  obtain ⟨as0, rest, hst, hlen, hB⟩ := popN_spec _ _ _ _ hB
  rw [List.append_nil] at hB
  obtain ⟨a, as, has0, hle, hnd, ho, hB⟩ := hB
  subst has0
  obtain ⟨hc, hB, hcl, hcs⟩ := pick_spec _ _ _ _ _ hB
  rw [unL_eq] at hB
  obtain ⟨post, hM, hB⟩ := hB
  have hsub := sub_cW (cs := cs) (ad := ad) hcl hcs
  have hfree := va_free (wc := cW cs (adc ρ B ad) hc) hD hS X.2.2.2.2.2.2.2.1 ρ hsub
  have hroom : 2 * (F0 m pc ls (st.map (cV ad))).monitorRoom + ((rest.map (cV ad)).map fun v => v.category).sum ≤ 8 := lv_room (by rw [cV_sum]; exact Nat.ble_eq.mp hle)
  have hstk : st.map (cV ad) = (as.map (cV ad)).reverse ++ .ref (ad a) :: rest.map (cV ad) := by rw [hst]; simp [cV]
  have hn1 : (as.map (cV ad)).length = n := by simpa using hlen
  refine p_call (A1 := va_A (cW cs (adc ρ B ad) hc) H.size) (n1 := hc.length) (a1 := adc ρ B ad) (post := post) (rest := rest.map (cV ad)) (mc := B) (ms := ms) (va_runI (b := ad a) (As := as.map (cV ad)) ⟨X.1, X.2.1, X.2.2.1, X.2.2.2.1, X.2.2.2.2.1⟩ (hM D cs (adc ρ B ad) H.size) ⟨X.callB hL.1 hR (X.2.2.2.2.1 _ hL.2.1), hL.2.2.2, X.2.2.2.2.1 _ hL.2.2.1⟩ ⟨pre_blind, X.pre (as := .inr (some a) :: as) hP hD hnd hsub⟩ rfl hn1 hl.1 hstk hroom hd ⟨hc0, hs0⟩) hS hfree (fun r h' ad' H1 locs1 hp hg1 hP1 hD1 hk1 hS1 => ?_)
  obtain ⟨rfl, ho', hB⟩ := hB r h' hp
  exact p_afterB X hg hl hP hD hS hnd ho hcl hsub hg1 hP1 hD1 hk1 hS1 ho' hB hk
theorem ok_callIN (X : MC p s m args meth c own nm cc nL rt D cs A) {d idx n maxL B ms : Nat} {y : MethodName} {cc' : ByteArray} {ρ : List Nat} (hd : decode cc pc = .ok (.invokespecial idx, 3)) (hL : MLIN own idx y cc' maxL n) (hR : d + 1 ≤ R.frames ∧ 8 + (maxL + 11) + 64 * d ≤ R.locals) (hc0 : cells + B ≤ R.cells) (hs0 : slots + ms ≤ R.slots) (hk : BK p l e R s m args below meth c nL D cs A n0 a0 Q (pc + 3) (cells + B) (slots + ms) k) : BK p l e R s m args below meth c nL D cs A n0 a0 Q pc cells slots (o_callA (MetP l d y cc' maxL none B ms) B (n + 1) ρ k) := by
  intro ad ls L st h H locs hg hl hP hD hS hB
  obtain ⟨as0, rest, hst, hlen, hB⟩ := popN_spec _ _ _ _ hB
  rw [List.append_nil] at hB
  obtain ⟨a, as, has0, hle, hnd, ho, hB⟩ := hB
  subst has0
  obtain ⟨hc, hB, hcl, hcs⟩ := pick_spec _ _ _ _ _ hB
  rw [unL_eq] at hB
  obtain ⟨post, hM, hB⟩ := hB
  have hsub := sub_cW (cs := cs) (ad := ad) hcl hcs
  have hfree := va_free (wc := cW cs (adc ρ B ad) hc) hD hS X.2.2.2.2.2.2.2.1 ρ hsub
  have hroom : 2 * (F0 m pc ls (st.map (cV ad))).monitorRoom + ((rest.map (cV ad)).map fun v => v.category).sum ≤ 8 := lv_room (by rw [cV_sum]; exact Nat.ble_eq.mp hle)
  have hstk : st.map (cV ad) = (as.map (cV ad)).reverse ++ .ref (ad a) :: rest.map (cV ad) := by rw [hst]; simp [cV]
  have hn1 : (as.map (cV ad)).length = n := by simpa using hlen
  obtain ⟨hL1, ⟨host, hL2⟩, hL3, hL4⟩ := hL
  refine p_call (A1 := va_A (cW cs (adc ρ B ad) hc) H.size) (n1 := hc.length) (a1 := adc ρ B ad) (post := post) (rest := rest.map (cV ad)) (mc := B) (ms := ms) (va_runIN (b := ad a) (As := as.map (cV ad)) ⟨X.1, X.2.1, X.2.2.1, X.2.2.2.1, X.2.2.2.2.1⟩ (hM D cs (adc ρ B ad) H.size) ⟨X.callN hL1 hR hL2, hL4, X.2.2.2.2.1 _ hL3⟩ ⟨pre_blind, X.pre (as := .inr (some a) :: as) hP hD hnd hsub⟩ rfl hn1 hl.1 hstk hroom hd ⟨hc0, hs0⟩) hS hfree (fun r h' ad' H1 locs1 hp hg1 hP1 hD1 hk1 hS1 => ?_)
  obtain ⟨rfl, ho', hB⟩ := hB r h' hp
  exact p_afterB X hg hl hP hD hS hnd ho hcl hsub hg1 hP1 hD1 hk1 hS1 ho' hB hk
end ALLOC
end
