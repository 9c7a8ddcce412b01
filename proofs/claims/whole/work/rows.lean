section
-- ===== PART A: goes FIRST, ahead of the names: the tables' words, and 'selects' of the private methods out of them =====
/-- a private method of a class that the tables say can be made, by its rows of tables_1 -/
def lw_okq (q : MethodName × Nat) : Prop := (q.1.cls ≠ "java/lang/invoke/MethodHandle" ∧ q.1.cls ≠ "java/lang/invoke/VarHandle") ∧ Cond.instantiable q.1.cls q.2 ∈ tables_1 ∧ Cond.privateMethod q.1 ∈ tables_1 ∧ Cond.instanceMethod q.1 ∈ tables_1
theorem lw_p0 : lw_okq (⟨"PulledJersey", "tellOfStitch", "(III)Z"⟩, 8) := ⟨⟨by decide +kernel, by decide +kernel⟩, List.mem_of_getElem? (i := 21) (by decide +kernel), List.mem_of_getElem? (i := 375) (by decide +kernel), List.mem_of_getElem? (i := 376) (by decide +kernel)⟩
theorem lw_p1 : lw_okq (⟨"PulledJersey$Puller", "comesUndone", "(LPulledJersey$Fabric;I)Z"⟩, 5) := ⟨⟨by decide +kernel, by decide +kernel⟩, List.mem_of_getElem? (i := 272) (by decide +kernel), List.mem_of_getElem? (i := 452) (by decide +kernel), List.mem_of_getElem? (i := 453) (by decide +kernel)⟩
theorem lw_p2 : lw_okq (⟨"PulledJersey$Law", "pop", "()I"⟩, 5) := ⟨⟨by decide +kernel, by decide +kernel⟩, List.mem_of_getElem? (i := 87) (by decide +kernel), List.mem_of_getElem? (i := 510) (by decide +kernel), List.mem_of_getElem? (i := 511) (by decide +kernel)⟩
theorem lw_p3 : lw_okq (⟨"PulledJersey$Law", "reckon", "(ILPulledJersey$Fabric;II)V"⟩, 5) := ⟨⟨by decide +kernel, by decide +kernel⟩, List.mem_of_getElem? (i := 87) (by decide +kernel), List.mem_of_getElem? (i := 521) (by decide +kernel), List.mem_of_getElem? (i := 522) (by decide +kernel)⟩
theorem lw_p4 : lw_okq (⟨"PulledJersey$Law", "push", "(I)V"⟩, 5) := ⟨⟨by decide +kernel, by decide +kernel⟩, List.mem_of_getElem? (i := 87) (by decide +kernel), List.mem_of_getElem? (i := 525) (by decide +kernel), List.mem_of_getElem? (i := 526) (by decide +kernel)⟩
theorem lw_p5 : lw_okq (⟨"PulledJersey$Whole", "draw", "(I)I"⟩, 6) := ⟨⟨by decide +kernel, by decide +kernel⟩, List.mem_of_getElem? (i := 29) (by decide +kernel), List.mem_of_getElem? (i := 554) (by decide +kernel), List.mem_of_getElem? (i := 555) (by decide +kernel)⟩
theorem lw_p6 : lw_okq (⟨"PulledJersey$LawReader", "scan", "(LPulledJersey$Tape;)V"⟩, 10) := ⟨⟨by decide +kernel, by decide +kernel⟩, List.mem_of_getElem? (i := 233) (by decide +kernel), List.mem_of_getElem? (i := 585) (by decide +kernel), List.mem_of_getElem? (i := 586) (by decide +kernel)⟩
theorem lw_p7 : lw_okq (⟨"PulledJersey$LawReader", "token", "()I"⟩, 10) := ⟨⟨by decide +kernel, by decide +kernel⟩, List.mem_of_getElem? (i := 233) (by decide +kernel), List.mem_of_getElem? (i := 687) (by decide +kernel), List.mem_of_getElem? (i := 688) (by decide +kernel)⟩
theorem lw_p8 : lw_okq (⟨"PulledJersey$LawReader", "readLine", "()Z"⟩, 10) := ⟨⟨by decide +kernel, by decide +kernel⟩, List.mem_of_getElem? (i := 233) (by decide +kernel), List.mem_of_getElem? (i := 691) (by decide +kernel), List.mem_of_getElem? (i := 692) (by decide +kernel)⟩
theorem lw_p9 : lw_okq (⟨"PulledJersey$LawReader", "fails", "(I)Z"⟩, 10) := ⟨⟨by decide +kernel, by decide +kernel⟩, List.mem_of_getElem? (i := 233) (by decide +kernel), List.mem_of_getElem? (i := 695) (by decide +kernel), List.mem_of_getElem? (i := 696) (by decide +kernel)⟩
theorem lw_p10 : lw_okq (⟨"PulledJersey$LawReader", "readSum", "()Z"⟩, 10) := ⟨⟨by decide +kernel, by decide +kernel⟩, List.mem_of_getElem? (i := 233) (by decide +kernel), List.mem_of_getElem? (i := 699) (by decide +kernel), List.mem_of_getElem? (i := 700) (by decide +kernel)⟩
theorem lw_p11 : lw_okq (⟨"PulledJersey$LawReader", "readUnit", "()Z"⟩, 10) := ⟨⟨by decide +kernel, by decide +kernel⟩, List.mem_of_getElem? (i := 233) (by decide +kernel), List.mem_of_getElem? (i := 703) (by decide +kernel), List.mem_of_getElem? (i := 704) (by decide +kernel)⟩
theorem lw_p12 : lw_okq (⟨"PulledJersey$LawReader", "value", "()I"⟩, 10) := ⟨⟨by decide +kernel, by decide +kernel⟩, List.mem_of_getElem? (i := 233) (by decide +kernel), List.mem_of_getElem? (i := 707) (by decide +kernel), List.mem_of_getElem? (i := 708) (by decide +kernel)⟩
theorem lw_p13 : lw_okq (⟨"PulledJersey$LawReader", "emit", "(I)V"⟩, 10) := ⟨⟨by decide +kernel, by decide +kernel⟩, List.mem_of_getElem? (i := 233) (by decide +kernel), List.mem_of_getElem? (i := 711) (by decide +kernel), List.mem_of_getElem? (i := 712) (by decide +kernel)⟩
theorem lw_p14 : lw_okq (⟨"PulledJersey$LawReader", "readDivisor", "()Z"⟩, 10) := ⟨⟨by decide +kernel, by decide +kernel⟩, List.mem_of_getElem? (i := 233) (by decide +kernel), List.mem_of_getElem? (i := 715) (by decide +kernel), List.mem_of_getElem? (i := 716) (by decide +kernel)⟩
theorem lw_p15 : lw_okq (⟨"PulledJersey$LawReader", "readCondition", "(I)Z"⟩, 10) := ⟨⟨by decide +kernel, by decide +kernel⟩, List.mem_of_getElem? (i := 233) (by decide +kernel), List.mem_of_getElem? (i := 719) (by decide +kernel), List.mem_of_getElem? (i := 720) (by decide +kernel)⟩
def lw_privs_1 : List (MethodName × Nat) := [(⟨"PulledJersey", "tellOfStitch", "(III)Z"⟩, 8), (⟨"PulledJersey$Puller", "comesUndone", "(LPulledJersey$Fabric;I)Z"⟩, 5), (⟨"PulledJersey$Law", "pop", "()I"⟩, 5), (⟨"PulledJersey$Law", "reckon", "(ILPulledJersey$Fabric;II)V"⟩, 5), (⟨"PulledJersey$Law", "push", "(I)V"⟩, 5), (⟨"PulledJersey$Whole", "draw", "(I)I"⟩, 6), (⟨"PulledJersey$LawReader", "scan", "(LPulledJersey$Tape;)V"⟩, 10), (⟨"PulledJersey$LawReader", "token", "()I"⟩, 10), (⟨"PulledJersey$LawReader", "readLine", "()Z"⟩, 10), (⟨"PulledJersey$LawReader", "fails", "(I)Z"⟩, 10), (⟨"PulledJersey$LawReader", "readSum", "()Z"⟩, 10), (⟨"PulledJersey$LawReader", "readUnit", "()Z"⟩, 10), (⟨"PulledJersey$LawReader", "value", "()I"⟩, 10), (⟨"PulledJersey$LawReader", "emit", "(I)V"⟩, 10), (⟨"PulledJersey$LawReader", "readDivisor", "()Z"⟩, 10), (⟨"PulledJersey$LawReader", "readCondition", "(I)Z"⟩, 10)]
theorem lw_r1 : ∀ q ∈ lw_privs_1, lw_okq q := List.forall_mem_cons.mpr ⟨lw_p0, List.forall_mem_cons.mpr ⟨lw_p1, List.forall_mem_cons.mpr ⟨lw_p2, List.forall_mem_cons.mpr ⟨lw_p3, List.forall_mem_cons.mpr ⟨lw_p4, List.forall_mem_cons.mpr ⟨lw_p5, List.forall_mem_cons.mpr ⟨lw_p6, List.forall_mem_cons.mpr ⟨lw_p7, List.forall_mem_cons.mpr ⟨lw_p8, List.forall_mem_cons.mpr ⟨lw_p9, List.forall_mem_cons.mpr ⟨lw_p10, List.forall_mem_cons.mpr ⟨lw_p11, List.forall_mem_cons.mpr ⟨lw_p12, List.forall_mem_cons.mpr ⟨lw_p13, List.forall_mem_cons.mpr ⟨lw_p14, List.forall_mem_cons.mpr ⟨lw_p15, fun _ h => absurd h List.not_mem_nil⟩⟩⟩⟩⟩⟩⟩⟩⟩⟩⟩⟩⟩⟩⟩⟩
theorem lw_p16 : lw_okq (⟨"PulledJersey$LawReader", "readClause", "(I)Z"⟩, 10) := ⟨⟨by decide +kernel, by decide +kernel⟩, List.mem_of_getElem? (i := 233) (by decide +kernel), List.mem_of_getElem? (i := 723) (by decide +kernel), List.mem_of_getElem? (i := 724) (by decide +kernel)⟩
theorem lw_p17 : lw_okq (⟨"PulledJersey$LawReader", "readSign", "(I)Z"⟩, 10) := ⟨⟨by decide +kernel, by decide +kernel⟩, List.mem_of_getElem? (i := 233) (by decide +kernel), List.mem_of_getElem? (i := 727) (by decide +kernel), List.mem_of_getElem? (i := 728) (by decide +kernel)⟩
theorem lw_p18 : lw_okq (⟨"PulledJersey$Saver", "choose", "(LPulledJersey$Fabric;JIJJ)V"⟩, 2) := ⟨⟨by decide +kernel, by decide +kernel⟩, List.mem_of_getElem? (i := 300) (by decide +kernel), List.mem_of_getElem? (i := 805) (by decide +kernel), List.mem_of_getElem? (i := 806) (by decide +kernel)⟩
theorem lw_p19 : lw_okq (⟨"PulledJersey", "undoesAll", "(II)Z"⟩, 8) := ⟨⟨by decide +kernel, by decide +kernel⟩, List.mem_of_getElem? (i := 21) (by decide +kernel), List.mem_of_getElem? (i := 817) (by decide +kernel), List.mem_of_getElem? (i := 818) (by decide +kernel)⟩
theorem lw_p20 : lw_okq (⟨"PulledJersey$Wool", "longestBut", "(I)I"⟩, 2) := ⟨⟨by decide +kernel, by decide +kernel⟩, List.mem_of_getElem? (i := 136) (by decide +kernel), List.mem_of_getElem? (i := 840) (by decide +kernel), List.mem_of_getElem? (i := 841) (by decide +kernel)⟩
theorem lw_p21 : lw_okq (⟨"PulledJerseyModel", "begins", "(II)V"⟩, 33) := ⟨⟨by decide +kernel, by decide +kernel⟩, List.mem_of_getElem? (i := 902) (by decide +kernel), List.mem_of_getElem? (i := 908) (by decide +kernel), List.mem_of_getElem? (i := 909) (by decide +kernel)⟩
theorem lw_p22 : lw_okq (⟨"PulledJerseyModel", "isStitch", "(I)Z"⟩, 33) := ⟨⟨by decide +kernel, by decide +kernel⟩, List.mem_of_getElem? (i := 902) (by decide +kernel), List.mem_of_getElem? (i := 912) (by decide +kernel), List.mem_of_getElem? (i := 913) (by decide +kernel)⟩
theorem lw_p23 : lw_okq (⟨"PulledJerseyModel", "comesBack", "(I)V"⟩, 33) := ⟨⟨by decide +kernel, by decide +kernel⟩, List.mem_of_getElem? (i := 902) (by decide +kernel), List.mem_of_getElem? (i := 1031) (by decide +kernel), List.mem_of_getElem? (i := 1032) (by decide +kernel)⟩
theorem lw_p24 : lw_okq (⟨"PulledJerseyModel", "next0", "()V"⟩, 33) := ⟨⟨by decide +kernel, by decide +kernel⟩, List.mem_of_getElem? (i := 902) (by decide +kernel), List.mem_of_getElem? (i := 1047) (by decide +kernel), List.mem_of_getElem? (i := 1048) (by decide +kernel)⟩
theorem lw_p25 : lw_okq (⟨"PulledJerseyModel", "see", "(I)I"⟩, 33) := ⟨⟨by decide +kernel, by decide +kernel⟩, List.mem_of_getElem? (i := 902) (by decide +kernel), List.mem_of_getElem? (i := 1051) (by decide +kernel), List.mem_of_getElem? (i := 1052) (by decide +kernel)⟩
theorem lw_p26 : lw_okq (⟨"PulledJerseyModel", "word", "()I"⟩, 33) := ⟨⟨by decide +kernel, by decide +kernel⟩, List.mem_of_getElem? (i := 902) (by decide +kernel), List.mem_of_getElem? (i := 1058) (by decide +kernel), List.mem_of_getElem? (i := 1059) (by decide +kernel)⟩
theorem lw_p27 : lw_okq (⟨"PulledJerseyModel", "is", "(Ljava/lang/String;)Z"⟩, 33) := ⟨⟨by decide +kernel, by decide +kernel⟩, List.mem_of_getElem? (i := 902) (by decide +kernel), List.mem_of_getElem? (i := 1063) (by decide +kernel), List.mem_of_getElem? (i := 1064) (by decide +kernel)⟩
theorem lw_p28 : lw_okq (⟨"PulledJerseyModel", "nameWord", "()I"⟩, 33) := ⟨⟨by decide +kernel, by decide +kernel⟩, List.mem_of_getElem? (i := 902) (by decide +kernel), List.mem_of_getElem? (i := 1073) (by decide +kernel), List.mem_of_getElem? (i := 1074) (by decide +kernel)⟩
theorem lw_p29 : lw_okq (⟨"PulledJerseyModel", "aLine", "()Z"⟩, 33) := ⟨⟨by decide +kernel, by decide +kernel⟩, List.mem_of_getElem? (i := 902) (by decide +kernel), List.mem_of_getElem? (i := 1087) (by decide +kernel), List.mem_of_getElem? (i := 1088) (by decide +kernel)⟩
theorem lw_p30 : lw_okq (⟨"PulledJerseyModel", "bad", "(I)Z"⟩, 33) := ⟨⟨by decide +kernel, by decide +kernel⟩, List.mem_of_getElem? (i := 902) (by decide +kernel), List.mem_of_getElem? (i := 1091) (by decide +kernel), List.mem_of_getElem? (i := 1092) (by decide +kernel)⟩
theorem lw_p31 : lw_okq (⟨"PulledJerseyModel", "sumUp", "()Z"⟩, 33) := ⟨⟨by decide +kernel, by decide +kernel⟩, List.mem_of_getElem? (i := 902) (by decide +kernel), List.mem_of_getElem? (i := 1095) (by decide +kernel), List.mem_of_getElem? (i := 1096) (by decide +kernel)⟩
def lw_privs_2 : List (MethodName × Nat) := [(⟨"PulledJersey$LawReader", "readClause", "(I)Z"⟩, 10), (⟨"PulledJersey$LawReader", "readSign", "(I)Z"⟩, 10), (⟨"PulledJersey$Saver", "choose", "(LPulledJersey$Fabric;JIJJ)V"⟩, 2), (⟨"PulledJersey", "undoesAll", "(II)Z"⟩, 8), (⟨"PulledJersey$Wool", "longestBut", "(I)I"⟩, 2), (⟨"PulledJerseyModel", "begins", "(II)V"⟩, 33), (⟨"PulledJerseyModel", "isStitch", "(I)Z"⟩, 33), (⟨"PulledJerseyModel", "comesBack", "(I)V"⟩, 33), (⟨"PulledJerseyModel", "next0", "()V"⟩, 33), (⟨"PulledJerseyModel", "see", "(I)I"⟩, 33), (⟨"PulledJerseyModel", "word", "()I"⟩, 33), (⟨"PulledJerseyModel", "is", "(Ljava/lang/String;)Z"⟩, 33), (⟨"PulledJerseyModel", "nameWord", "()I"⟩, 33), (⟨"PulledJerseyModel", "aLine", "()Z"⟩, 33), (⟨"PulledJerseyModel", "bad", "(I)Z"⟩, 33), (⟨"PulledJerseyModel", "sumUp", "()Z"⟩, 33)]
theorem lw_r2 : ∀ q ∈ lw_privs_2, lw_okq q := List.forall_mem_cons.mpr ⟨lw_p16, List.forall_mem_cons.mpr ⟨lw_p17, List.forall_mem_cons.mpr ⟨lw_p18, List.forall_mem_cons.mpr ⟨lw_p19, List.forall_mem_cons.mpr ⟨lw_p20, List.forall_mem_cons.mpr ⟨lw_p21, List.forall_mem_cons.mpr ⟨lw_p22, List.forall_mem_cons.mpr ⟨lw_p23, List.forall_mem_cons.mpr ⟨lw_p24, List.forall_mem_cons.mpr ⟨lw_p25, List.forall_mem_cons.mpr ⟨lw_p26, List.forall_mem_cons.mpr ⟨lw_p27, List.forall_mem_cons.mpr ⟨lw_p28, List.forall_mem_cons.mpr ⟨lw_p29, List.forall_mem_cons.mpr ⟨lw_p30, List.forall_mem_cons.mpr ⟨lw_p31, fun _ h => absurd h List.not_mem_nil⟩⟩⟩⟩⟩⟩⟩⟩⟩⟩⟩⟩⟩⟩⟩⟩
theorem lw_p32 : lw_okq (⟨"PulledJerseyModel", "product", "()Z"⟩, 33) := ⟨⟨by decide +kernel, by decide +kernel⟩, List.mem_of_getElem? (i := 902) (by decide +kernel), List.mem_of_getElem? (i := 1099) (by decide +kernel), List.mem_of_getElem? (i := 1100) (by decide +kernel)⟩
theorem lw_p33 : lw_okq (⟨"PulledJerseyModel", "unit", "()Z"⟩, 33) := ⟨⟨by decide +kernel, by decide +kernel⟩, List.mem_of_getElem? (i := 902) (by decide +kernel), List.mem_of_getElem? (i := 1103) (by decide +kernel), List.mem_of_getElem? (i := 1104) (by decide +kernel)⟩
theorem lw_p34 : lw_okq (⟨"PulledJerseyModel", "lay", "(II)V"⟩, 33) := ⟨⟨by decide +kernel, by decide +kernel⟩, List.mem_of_getElem? (i := 902) (by decide +kernel), List.mem_of_getElem? (i := 1107) (by decide +kernel), List.mem_of_getElem? (i := 1108) (by decide +kernel)⟩
theorem lw_p35 : lw_okq (⟨"PulledJerseyModel", "any", "()Z"⟩, 33) := ⟨⟨by decide +kernel, by decide +kernel⟩, List.mem_of_getElem? (i := 902) (by decide +kernel), List.mem_of_getElem? (i := 1111) (by decide +kernel), List.mem_of_getElem? (i := 1112) (by decide +kernel)⟩
theorem lw_p36 : lw_okq (⟨"PulledJerseyModel", "every", "()Z"⟩, 33) := ⟨⟨by decide +kernel, by decide +kernel⟩, List.mem_of_getElem? (i := 902) (by decide +kernel), List.mem_of_getElem? (i := 1115) (by decide +kernel), List.mem_of_getElem? (i := 1116) (by decide +kernel)⟩
theorem lw_p37 : lw_okq (⟨"PulledJerseyModel", "oneTest", "()Z"⟩, 33) := ⟨⟨by decide +kernel, by decide +kernel⟩, List.mem_of_getElem? (i := 902) (by decide +kernel), List.mem_of_getElem? (i := 1119) (by decide +kernel), List.mem_of_getElem? (i := 1120) (by decide +kernel)⟩
theorem lw_p38 : lw_okq (⟨"PulledJerseyModel", "opens", "()Z"⟩, 33) := ⟨⟨by decide +kernel, by decide +kernel⟩, List.mem_of_getElem? (i := 902) (by decide +kernel), List.mem_of_getElem? (i := 1123) (by decide +kernel), List.mem_of_getElem? (i := 1124) (by decide +kernel)⟩
theorem lw_p39 : lw_okq (⟨"PulledJerseyModel", "need", "(I)Z"⟩, 33) := ⟨⟨by decide +kernel, by decide +kernel⟩, List.mem_of_getElem? (i := 902) (by decide +kernel), List.mem_of_getElem? (i := 1127) (by decide +kernel), List.mem_of_getElem? (i := 1128) (by decide +kernel)⟩
theorem lw_p40 : lw_okq (⟨"PulledJerseyModel", "keeps", "()V"⟩, 33) := ⟨⟨by decide +kernel, by decide +kernel⟩, List.mem_of_getElem? (i := 902) (by decide +kernel), List.mem_of_getElem? (i := 1143) (by decide +kernel), List.mem_of_getElem? (i := 1144) (by decide +kernel)⟩
theorem lw_p41 : lw_okq (⟨"PulledJerseyModel", "isGone", "(II)V"⟩, 33) := ⟨⟨by decide +kernel, by decide +kernel⟩, List.mem_of_getElem? (i := 902) (by decide +kernel), List.mem_of_getElem? (i := 1147) (by decide +kernel), List.mem_of_getElem? (i := 1148) (by decide +kernel)⟩
theorem lw_p42 : lw_okq (⟨"PulledJerseyModel", "isEnd", "(II)Z"⟩, 33) := ⟨⟨by decide +kernel, by decide +kernel⟩, List.mem_of_getElem? (i := 902) (by decide +kernel), List.mem_of_getElem? (i := 1159) (by decide +kernel), List.mem_of_getElem? (i := 1160) (by decide +kernel)⟩
theorem lw_p43 : lw_okq (⟨"PulledJerseyModel", "isPlace", "(I)Z"⟩, 33) := ⟨⟨by decide +kernel, by decide +kernel⟩, List.mem_of_getElem? (i := 902) (by decide +kernel), List.mem_of_getElem? (i := 1163) (by decide +kernel), List.mem_of_getElem? (i := 1164) (by decide +kernel)⟩
theorem lw_p44 : lw_okq (⟨"PulledJerseyModel", "laysNow", "()V"⟩, 33) := ⟨⟨by decide +kernel, by decide +kernel⟩, List.mem_of_getElem? (i := 902) (by decide +kernel), List.mem_of_getElem? (i := 1167) (by decide +kernel), List.mem_of_getElem? (i := 1168) (by decide +kernel)⟩
theorem lw_p45 : lw_okq (⟨"PulledJerseyModel", "laysHolders", "()V"⟩, 33) := ⟨⟨by decide +kernel, by decide +kernel⟩, List.mem_of_getElem? (i := 902) (by decide +kernel), List.mem_of_getElem? (i := 1171) (by decide +kernel), List.mem_of_getElem? (i := 1172) (by decide +kernel)⟩
theorem lw_p46 : lw_okq (⟨"PulledJerseyModel", "holds", "(II)V"⟩, 33) := ⟨⟨by decide +kernel, by decide +kernel⟩, List.mem_of_getElem? (i := 902) (by decide +kernel), List.mem_of_getElem? (i := 1175) (by decide +kernel), List.mem_of_getElem? (i := 1176) (by decide +kernel)⟩
theorem lw_p47 : lw_okq (⟨"PulledJerseyModel", "drawnOne", "(I)I"⟩, 33) := ⟨⟨by decide +kernel, by decide +kernel⟩, List.mem_of_getElem? (i := 902) (by decide +kernel), List.mem_of_getElem? (i := 1179) (by decide +kernel), List.mem_of_getElem? (i := 1180) (by decide +kernel)⟩
def lw_privs_3 : List (MethodName × Nat) := [(⟨"PulledJerseyModel", "product", "()Z"⟩, 33), (⟨"PulledJerseyModel", "unit", "()Z"⟩, 33), (⟨"PulledJerseyModel", "lay", "(II)V"⟩, 33), (⟨"PulledJerseyModel", "any", "()Z"⟩, 33), (⟨"PulledJerseyModel", "every", "()Z"⟩, 33), (⟨"PulledJerseyModel", "oneTest", "()Z"⟩, 33), (⟨"PulledJerseyModel", "opens", "()Z"⟩, 33), (⟨"PulledJerseyModel", "need", "(I)Z"⟩, 33), (⟨"PulledJerseyModel", "keeps", "()V"⟩, 33), (⟨"PulledJerseyModel", "isGone", "(II)V"⟩, 33), (⟨"PulledJerseyModel", "isEnd", "(II)Z"⟩, 33), (⟨"PulledJerseyModel", "isPlace", "(I)Z"⟩, 33), (⟨"PulledJerseyModel", "laysNow", "()V"⟩, 33), (⟨"PulledJerseyModel", "laysHolders", "()V"⟩, 33), (⟨"PulledJerseyModel", "holds", "(II)V"⟩, 33), (⟨"PulledJerseyModel", "drawnOne", "(I)I"⟩, 33)]
theorem lw_r3 : ∀ q ∈ lw_privs_3, lw_okq q := List.forall_mem_cons.mpr ⟨lw_p32, List.forall_mem_cons.mpr ⟨lw_p33, List.forall_mem_cons.mpr ⟨lw_p34, List.forall_mem_cons.mpr ⟨lw_p35, List.forall_mem_cons.mpr ⟨lw_p36, List.forall_mem_cons.mpr ⟨lw_p37, List.forall_mem_cons.mpr ⟨lw_p38, List.forall_mem_cons.mpr ⟨lw_p39, List.forall_mem_cons.mpr ⟨lw_p40, List.forall_mem_cons.mpr ⟨lw_p41, List.forall_mem_cons.mpr ⟨lw_p42, List.forall_mem_cons.mpr ⟨lw_p43, List.forall_mem_cons.mpr ⟨lw_p44, List.forall_mem_cons.mpr ⟨lw_p45, List.forall_mem_cons.mpr ⟨lw_p46, List.forall_mem_cons.mpr ⟨lw_p47, fun _ h => absurd h List.not_mem_nil⟩⟩⟩⟩⟩⟩⟩⟩⟩⟩⟩⟩⟩⟩⟩⟩
theorem lw_p48 : lw_okq (⟨"PulledJerseyModel", "drawnOther", "(I)I"⟩, 33) := ⟨⟨by decide +kernel, by decide +kernel⟩, List.mem_of_getElem? (i := 902) (by decide +kernel), List.mem_of_getElem? (i := 1183) (by decide +kernel), List.mem_of_getElem? (i := 1184) (by decide +kernel)⟩
theorem lw_p49 : lw_okq (⟨"PulledJerseyModel", "pulls", "(IIIZ)V"⟩, 33) := ⟨⟨by decide +kernel, by decide +kernel⟩, List.mem_of_getElem? (i := 902) (by decide +kernel), List.mem_of_getElem? (i := 1187) (by decide +kernel), List.mem_of_getElem? (i := 1188) (by decide +kernel)⟩
theorem lw_p50 : lw_okq (⟨"PulledJerseyModel", "stitchAt", "(I)I"⟩, 33) := ⟨⟨by decide +kernel, by decide +kernel⟩, List.mem_of_getElem? (i := 902) (by decide +kernel), List.mem_of_getElem? (i := 1191) (by decide +kernel), List.mem_of_getElem? (i := 1192) (by decide +kernel)⟩
theorem lw_p51 : lw_okq (⟨"PulledJerseyModel", "isHeld", "(I)Z"⟩, 33) := ⟨⟨by decide +kernel, by decide +kernel⟩, List.mem_of_getElem? (i := 902) (by decide +kernel), List.mem_of_getElem? (i := 1195) (by decide +kernel), List.mem_of_getElem? (i := 1196) (by decide +kernel)⟩
theorem lw_p52 : lw_okq (⟨"PulledJerseyModel", "goes", "(I)V"⟩, 33) := ⟨⟨by decide +kernel, by decide +kernel⟩, List.mem_of_getElem? (i := 902) (by decide +kernel), List.mem_of_getElem? (i := 1199) (by decide +kernel), List.mem_of_getElem? (i := 1200) (by decide +kernel)⟩
theorem lw_p53 : lw_okq (⟨"PulledJerseyModel", "winds", "(II)V"⟩, 33) := ⟨⟨by decide +kernel, by decide +kernel⟩, List.mem_of_getElem? (i := 902) (by decide +kernel), List.mem_of_getElem? (i := 1203) (by decide +kernel), List.mem_of_getElem? (i := 1204) (by decide +kernel)⟩
theorem lw_p54 : lw_okq (⟨"PulledJerseyModel", "anHour", "()I"⟩, 33) := ⟨⟨by decide +kernel, by decide +kernel⟩, List.mem_of_getElem? (i := 902) (by decide +kernel), List.mem_of_getElem? (i := 1214) (by decide +kernel), List.mem_of_getElem? (i := 1215) (by decide +kernel)⟩
theorem lw_p55 : lw_okq (⟨"PulledJerseyModel", "isLoose", "(I)Z"⟩, 33) := ⟨⟨by decide +kernel, by decide +kernel⟩, List.mem_of_getElem? (i := 902) (by decide +kernel), List.mem_of_getElem? (i := 1218) (by decide +kernel), List.mem_of_getElem? (i := 1219) (by decide +kernel)⟩
theorem lw_p56 : lw_okq (⟨"PulledJerseyModel", "oddsOf", "(I)I"⟩, 33) := ⟨⟨by decide +kernel, by decide +kernel⟩, List.mem_of_getElem? (i := 902) (by decide +kernel), List.mem_of_getElem? (i := 1222) (by decide +kernel), List.mem_of_getElem? (i := 1223) (by decide +kernel)⟩
theorem lw_p57 : lw_okq (⟨"PulledJerseyModel", "comesTo", "(II)I"⟩, 33) := ⟨⟨by decide +kernel, by decide +kernel⟩, List.mem_of_getElem? (i := 902) (by decide +kernel), List.mem_of_getElem? (i := 1226) (by decide +kernel), List.mem_of_getElem? (i := 1227) (by decide +kernel)⟩
theorem lw_p58 : lw_okq (⟨"PulledJerseyModel", "draw", "(I)I"⟩, 33) := ⟨⟨by decide +kernel, by decide +kernel⟩, List.mem_of_getElem? (i := 902) (by decide +kernel), List.mem_of_getElem? (i := 1239) (by decide +kernel), List.mem_of_getElem? (i := 1240) (by decide +kernel)⟩
theorem lw_p59 : lw_okq (⟨"PulledJerseyModel", "placeOf", "(I)I"⟩, 33) := ⟨⟨by decide +kernel, by decide +kernel⟩, List.mem_of_getElem? (i := 902) (by decide +kernel), List.mem_of_getElem? (i := 1249) (by decide +kernel), List.mem_of_getElem? (i := 1250) (by decide +kernel)⟩
theorem lw_p60 : lw_okq (⟨"PulledJerseyModel", "allRun", "()I"⟩, 33) := ⟨⟨by decide +kernel, by decide +kernel⟩, List.mem_of_getElem? (i := 902) (by decide +kernel), List.mem_of_getElem? (i := 1269) (by decide +kernel), List.mem_of_getElem? (i := 1270) (by decide +kernel)⟩
theorem lw_p61 : lw_okq (⟨"PulledJerseyModel", "isQueued", "(II)Z"⟩, 33) := ⟨⟨by decide +kernel, by decide +kernel⟩, List.mem_of_getElem? (i := 902) (by decide +kernel), List.mem_of_getElem? (i := 1273) (by decide +kernel), List.mem_of_getElem? (i := 1274) (by decide +kernel)⟩
theorem lw_p62 : lw_okq (⟨"PulledJerseyModel", "canCatch", "(I)Z"⟩, 33) := ⟨⟨by decide +kernel, by decide +kernel⟩, List.mem_of_getElem? (i := 902) (by decide +kernel), List.mem_of_getElem? (i := 1281) (by decide +kernel), List.mem_of_getElem? (i := 1282) (by decide +kernel)⟩
theorem lw_p63 : lw_okq (⟨"PulledJerseyModel", "saves", "(III)V"⟩, 33) := ⟨⟨by decide +kernel, by decide +kernel⟩, List.mem_of_getElem? (i := 902) (by decide +kernel), List.mem_of_getElem? (i := 1285) (by decide +kernel), List.mem_of_getElem? (i := 1286) (by decide +kernel)⟩
def lw_privs_4 : List (MethodName × Nat) := [(⟨"PulledJerseyModel", "drawnOther", "(I)I"⟩, 33), (⟨"PulledJerseyModel", "pulls", "(IIIZ)V"⟩, 33), (⟨"PulledJerseyModel", "stitchAt", "(I)I"⟩, 33), (⟨"PulledJerseyModel", "isHeld", "(I)Z"⟩, 33), (⟨"PulledJerseyModel", "goes", "(I)V"⟩, 33), (⟨"PulledJerseyModel", "winds", "(II)V"⟩, 33), (⟨"PulledJerseyModel", "anHour", "()I"⟩, 33), (⟨"PulledJerseyModel", "isLoose", "(I)Z"⟩, 33), (⟨"PulledJerseyModel", "oddsOf", "(I)I"⟩, 33), (⟨"PulledJerseyModel", "comesTo", "(II)I"⟩, 33), (⟨"PulledJerseyModel", "draw", "(I)I"⟩, 33), (⟨"PulledJerseyModel", "placeOf", "(I)I"⟩, 33), (⟨"PulledJerseyModel", "allRun", "()I"⟩, 33), (⟨"PulledJerseyModel", "isQueued", "(II)Z"⟩, 33), (⟨"PulledJerseyModel", "canCatch", "(I)Z"⟩, 33), (⟨"PulledJerseyModel", "saves", "(III)V"⟩, 33)]
theorem lw_r4 : ∀ q ∈ lw_privs_4, lw_okq q := List.forall_mem_cons.mpr ⟨lw_p48, List.forall_mem_cons.mpr ⟨lw_p49, List.forall_mem_cons.mpr ⟨lw_p50, List.forall_mem_cons.mpr ⟨lw_p51, List.forall_mem_cons.mpr ⟨lw_p52, List.forall_mem_cons.mpr ⟨lw_p53, List.forall_mem_cons.mpr ⟨lw_p54, List.forall_mem_cons.mpr ⟨lw_p55, List.forall_mem_cons.mpr ⟨lw_p56, List.forall_mem_cons.mpr ⟨lw_p57, List.forall_mem_cons.mpr ⟨lw_p58, List.forall_mem_cons.mpr ⟨lw_p59, List.forall_mem_cons.mpr ⟨lw_p60, List.forall_mem_cons.mpr ⟨lw_p61, List.forall_mem_cons.mpr ⟨lw_p62, List.forall_mem_cons.mpr ⟨lw_p63, fun _ h => absurd h List.not_mem_nil⟩⟩⟩⟩⟩⟩⟩⟩⟩⟩⟩⟩⟩⟩⟩⟩
theorem lw_p64 : lw_okq (⟨"PulledJerseyModel", "hereMany", "()I"⟩, 33) := ⟨⟨by decide +kernel, by decide +kernel⟩, List.mem_of_getElem? (i := 902) (by decide +kernel), List.mem_of_getElem? (i := 1297) (by decide +kernel), List.mem_of_getElem? (i := 1298) (by decide +kernel)⟩
theorem lw_p65 : lw_okq (⟨"PulledJerseyModel", "isSoBy", "(I)Z"⟩, 33) := ⟨⟨by decide +kernel, by decide +kernel⟩, List.mem_of_getElem? (i := 902) (by decide +kernel), List.mem_of_getElem? (i := 1322) (by decide +kernel), List.mem_of_getElem? (i := 1323) (by decide +kernel)⟩
theorem lw_p66 : lw_okq (⟨"PulledJerseyModel", "cuts", "()I"⟩, 33) := ⟨⟨by decide +kernel, by decide +kernel⟩, List.mem_of_getElem? (i := 902) (by decide +kernel), List.mem_of_getElem? (i := 1334) (by decide +kernel), List.mem_of_getElem? (i := 1335) (by decide +kernel)⟩
def lw_privs_5 : List (MethodName × Nat) := [(⟨"PulledJerseyModel", "hereMany", "()I"⟩, 33), (⟨"PulledJerseyModel", "isSoBy", "(I)Z"⟩, 33), (⟨"PulledJerseyModel", "cuts", "()I"⟩, 33)]
theorem lw_r5 : ∀ q ∈ lw_privs_5, lw_okq q := List.forall_mem_cons.mpr ⟨lw_p64, List.forall_mem_cons.mpr ⟨lw_p65, List.forall_mem_cons.mpr ⟨lw_p66, fun _ h => absurd h List.not_mem_nil⟩⟩⟩
def lw_privs : List (MethodName × Nat) := lw_privs_1 ++ (lw_privs_2 ++ (lw_privs_3 ++ (lw_privs_4 ++ (lw_privs_5))))
def lw_tbl : List Cond := k2_sels lw_privs ++ tables_1
theorem lw_privs_ok : ∀ q ∈ lw_privs, lw_okq q := by
  show ∀ q ∈ lw_privs_1 ++ (lw_privs_2 ++ (lw_privs_3 ++ (lw_privs_4 ++ (lw_privs_5)))), lw_okq q
  exact List.forall_mem_append.mpr ⟨lw_r1, List.forall_mem_append.mpr ⟨lw_r2, List.forall_mem_append.mpr ⟨lw_r3, List.forall_mem_append.mpr ⟨lw_r4, lw_r5⟩⟩⟩⟩
end
section
/-! ===== BEGIN words of one list among another's, by their places ===== -/
theorem goodIn_r {big : List Cond} (ws : List Cond) (ps : List Nat) (hp : ws = ps.filterMap (fun i => big[i]?)) (h : ws.all goodWord = true) : GoodIn big ws := by
  intro w hw
  have h1 := List.all_eq_true.mp h w hw
  rw [hp] at hw
  obtain ⟨i, -, hi⟩ := List.mem_filterMap.mp hw
  have hm : w ∈ big := by first | exact List.mem_of_getElem? hi | exact List.getElem?_mem hi
  exact ⟨hm, good_of_word h1⟩
theorem goodIn_app {big a b : List Cond} (ha : GoodIn big a) (hb : GoodIn big b) : GoodIn big (a ++ b) := fun w h => (List.mem_append.mp h).elim (ha w) (hb w)
theorem goodIn_ca {big a b : List Cond} {c : Cond} (ha : GoodIn big (c :: a)) (hb : GoodIn big b) : GoodIn big (c :: (a ++ b)) := fun w h => (List.mem_cons.mp h).elim (fun e => ha w (List.mem_cons.mpr (Or.inl e))) (fun h => (List.mem_append.mp h).elim (fun h => ha w (List.mem_cons.mpr (Or.inr h))) (hb w))
theorem goodIn_sub {big ws : List Cond} (hm : ∀ w ∈ ws, w ∈ big) (h : ws.all goodWord = true) : GoodIn big ws := fun w hw => ⟨hm w hw, good_of_word (List.all_eq_true.mp h w hw)⟩
/-! ===== END ===== -/

/-! ===== BEGIN printed: names, fields, word lists, decode rows ===== -/
def RX0 : String := "PulledJersey$Book"
def TX0 : u_T := fun k => match k with
  | 0 => ("PulledJersey$Book", "hours", "[I", true)
  | 1 => ("PulledJersey$Book", "stitches", "[I", true)
  | 2 => ("PulledJersey$Book", "ways", "[I", true)
  | _ => ("PulledJersey$Book", "count", "I", false)
def tyX0 : Nat → FieldType := fun k => match k with
  | 0 => .array .int
  | 1 => .array .int
  | 2 => .array .int
  | _ => .int
abbrev wsX00 : List Cond := u_ws RX0 TX0 4
theorem nmX0 : ∀ a, a < 4 → ∀ b, b < 4 → a ≠ b → (TX0 a).2.1 ≠ (TX0 b).2.1 := by decide +kernel
theorem tyX0_ok : ∀ k, k < 4 → parseFieldDescriptor (TX0 k).2.2.1 = some (tyX0 k) := by decide +kernel
abbrev cX0_init : ByteArray := prog_2_method_1_code
def yX0_init : MethodName := ⟨RX0, "<init>", "()V"⟩
abbrev cX0_copyFrom : ByteArray := prog_2_method_2_code
def yX0_copyFrom : MethodName := ⟨RX0, "copyFrom", "(LPulledJersey$Book;)V"⟩
abbrev cX0_note : ByteArray := prog_2_method_3_code
def yX0_note : MethodName := ⟨RX0, "note", "(III)V"⟩
abbrev cX0_read : ByteArray := prog_2_method_4_code
def yX0_read : MethodName := ⟨RX0, "read", "(II)I"⟩
def RX1 : String := "PulledJersey$Fabric"
def TX1 : u_T := fun k => match k with
  | 0 => ("PulledJersey$Fabric", "w", "I", false)
  | 1 => ("PulledJersey$Fabric", "h", "I", false)
  | 2 => ("PulledJersey$Fabric", "isBound", "Z", false)
  | 3 => ("PulledJersey$Fabric", "whole", "J", false)
  | 4 => ("PulledJersey$Fabric", "kindLow", "J", false)
  | 5 => ("PulledJersey$Fabric", "kindHigh", "J", false)
  | 6 => ("PulledJersey$Fabric", "here", "J", false)
  | 7 => ("PulledJersey$Fabric", "caught", "J", false)
  | 8 => ("PulledJersey$Fabric", "wound", "J", false)
  | _ => ("PulledJersey$Fabric", "cuts", "J", false)
def tyX1 : Nat → FieldType := fun k => match k with
  | 0 => .int
  | 1 => .int
  | 2 => .boolean
  | 3 => .long
  | 4 => .long
  | 5 => .long
  | 6 => .long
  | 7 => .long
  | 8 => .long
  | _ => .long
abbrev wsX10 : List Cond := u_ws RX1 TX1 10
theorem nmX1 : ∀ a, a < 10 → ∀ b, b < 10 → a ≠ b → (TX1 a).2.1 ≠ (TX1 b).2.1 := by decide +kernel
theorem tyX1_ok : ∀ k, k < 10 → parseFieldDescriptor (TX1 k).2.2.1 = some (tyX1 k) := by decide +kernel
abbrev cX1_init : ByteArray := prog_3_method_1_code
def yX1_init : MethodName := ⟨RX1, "<init>", "()V"⟩
abbrev cX1_begin : ByteArray := prog_3_method_2_code
def yX1_begin : MethodName := ⟨RX1, "begin", "(II)V"⟩
abbrev cX1_copyFrom : ByteArray := prog_3_method_3_code
def yX1_copyFrom : MethodName := ⟨RX1, "copyFrom", "(LPulledJersey$Fabric;)V"⟩
abbrev cX1_has : ByteArray := prog_3_method_4_code
def yX1_has : MethodName := ⟨RX1, "has", "(I)Z"⟩
abbrev cX1_isHere : ByteArray := prog_3_method_5_code
def yX1_isHere : MethodName := ⟨RX1, "isHere", "(I)Z"⟩
abbrev cX1_places : ByteArray := prog_3_method_6_code
def yX1_places : MethodName := ⟨RX1, "places", "()I"⟩
abbrev cX1_kindOf : ByteArray := prog_3_method_7_code
def yX1_kindOf : MethodName := ⟨RX1, "kindOf", "(I)I"⟩
abbrev cX1_tellBound : ByteArray := prog_3_method_8_code
def yX1_tellBound : MethodName := ⟨RX1, "tellBound", "(I)Z"⟩
abbrev cX1_tellKind : ByteArray := prog_3_method_9_code
def yX1_tellKind : MethodName := ⟨RX1, "tellKind", "(II)Z"⟩
abbrev cX1_tellCaught : ByteArray := prog_3_method_10_code
def yX1_tellCaught : MethodName := ⟨RX1, "tellCaught", "(II)Z"⟩
abbrev cX1_bringBack : ByteArray := prog_3_method_11_code
def yX1_bringBack : MethodName := ⟨RX1, "bringBack", "(I)V"⟩
abbrev cX1_loopsUnder : ByteArray := prog_3_method_12_code
def yX1_loopsUnder : MethodName := ⟨RX1, "loopsUnder", "(J)J"⟩
abbrev cX1_heldOf : ByteArray := prog_3_method_13_code
def yX1_heldOf : MethodName := ⟨RX1, "heldOf", "(JJ)J"⟩
abbrev cX1_loose : ByteArray := prog_3_method_14_code
def yX1_loose : MethodName := ⟨RX1, "loose", "()J"⟩
abbrev cX1_inTheEnd : ByteArray := prog_3_method_15_code
def yX1_inTheEnd : MethodName := ⟨RX1, "inTheEnd", "(JJ)J"⟩
abbrev cX1_firsts : ByteArray := prog_3_method_16_code
def yX1_firsts : MethodName := ⟨RX1, "firsts", "()J"⟩
abbrev cX1_placeOf : ByteArray := prog_3_method_17_code
def yX1_placeOf : MethodName := ⟨RX1, "placeOf", "(I)I"⟩
abbrev cX1_stitchAt : ByteArray := prog_3_method_18_code
def yX1_stitchAt : MethodName := ⟨RX1, "stitchAt", "(I)I"⟩
abbrev cX1_canCut : ByteArray := prog_3_method_19_code
def yX1_canCut : MethodName := ⟨RX1, "canCut", "(I)Z"⟩
abbrev cX1_isEnd : ByteArray := prog_3_method_20_code
def yX1_isEnd : MethodName := ⟨RX1, "isEnd", "(II)Z"⟩
abbrev cX1_hasThreadBetween : ByteArray := prog_3_method_21_code
def yX1_hasThreadBetween : MethodName := ⟨RX1, "hasThreadBetween", "(II)Z"⟩
abbrev cX1_cutsAround : ByteArray := prog_3_method_22_code
def yX1_cutsAround : MethodName := ⟨RX1, "cutsAround", "(J)I"⟩
abbrev cX1_wind : ByteArray := prog_3_method_23_code
def yX1_wind : MethodName := ⟨RX1, "wind", "(J)I"⟩
abbrev cX1_besideOf : ByteArray := prog_3_method_24_code
def yX1_besideOf : MethodName := ⟨RX1, "besideOf", "(I)I"⟩
abbrev cX1_belowOf : ByteArray := prog_3_method_25_code
def yX1_belowOf : MethodName := ⟨RX1, "belowOf", "(I)I"⟩
abbrev cX1_goneInColumn : ByteArray := prog_3_method_26_code
def yX1_goneInColumn : MethodName := ⟨RX1, "goneInColumn", "(I)I"⟩
def RX2 : String := "PulledJersey$Law"
def TX2 : u_T := fun k => match k with
  | 0 => ("PulledJersey$Law", "code", "[I", true)
  | 1 => ("PulledJersey$Law", "stack", "[I", true)
  | 2 => ("PulledJersey$Law", "length", "I", false)
  | 3 => ("PulledJersey$Law", "lines", "I", false)
  | _ => ("PulledJersey$Law", "height", "I", false)
def tyX2 : Nat → FieldType := fun k => match k with
  | 0 => .array .int
  | 1 => .array .int
  | 2 => .int
  | 3 => .int
  | _ => .int
abbrev wsX20 : List Cond := u_ws RX2 TX2 5
theorem nmX2 : ∀ a, a < 5 → ∀ b, b < 5 → a ≠ b → (TX2 a).2.1 ≠ (TX2 b).2.1 := by decide +kernel
theorem tyX2_ok : ∀ k, k < 5 → parseFieldDescriptor (TX2 k).2.2.1 = some (tyX2 k) := by decide +kernel
abbrev cX2_init : ByteArray := prog_4_method_1_code
def yX2_init : MethodName := ⟨RX2, "<init>", "()V"⟩
abbrev cX2_clear : ByteArray := prog_4_method_2_code
def yX2_clear : MethodName := ⟨RX2, "clear", "()V"⟩
abbrev cX2_take : ByteArray := prog_4_method_3_code
def yX2_take : MethodName := ⟨RX2, "take", "([III)V"⟩
abbrev cX2_oddsOf : ByteArray := prog_4_method_4_code
def yX2_oddsOf : MethodName := ⟨RX2, "oddsOf", "(LPulledJersey$Fabric;II)I"⟩
abbrev cX2_reckon : ByteArray := prog_4_method_5_code
def yX2_reckon : MethodName := ⟨RX2, "reckon", "(ILPulledJersey$Fabric;II)V"⟩
abbrev cX2_traitOf : ByteArray := prog_4_method_6_code
def yX2_traitOf : MethodName := ⟨RX2, "traitOf", "(ILPulledJersey$Fabric;II)I"⟩
abbrev cX2_ofTwo : ByteArray := prog_4_method_7_code
def yX2_ofTwo : MethodName := ⟨RX2, "ofTwo", "(III)I"⟩
abbrev cX2_heldToOdds : ByteArray := prog_4_method_8_code
def yX2_heldToOdds : MethodName := ⟨RX2, "heldToOdds", "(I)I"⟩
abbrev cX2_push : ByteArray := prog_4_method_9_code
def yX2_push : MethodName := ⟨RX2, "push", "(I)V"⟩
abbrev cX2_pop : ByteArray := prog_4_method_10_code
def yX2_pop : MethodName := ⟨RX2, "pop", "()I"⟩
def RX3 : String := "PulledJersey$LawReader"
def TX3 : u_T := fun k => match k with
  | 0 => ("PulledJersey$LawReader", "tokens", "[I", true)
  | 1 => ("PulledJersey$LawReader", "places", "[I", true)
  | 2 => ("PulledJersey$LawReader", "values", "[I", true)
  | 3 => ("PulledJersey$LawReader", "code", "[I", true)
  | 4 => ("PulledJersey$LawReader", "tokenCount", "I", false)
  | 5 => ("PulledJersey$LawReader", "next", "I", false)
  | 6 => ("PulledJersey$LawReader", "codeLength", "I", false)
  | 7 => ("PulledJersey$LawReader", "lines", "I", false)
  | 8 => ("PulledJersey$LawReader", "fault", "I", false)
  | _ => ("PulledJersey$LawReader", "faultPlace", "I", false)
def tyX3 : Nat → FieldType := fun k => match k with
  | 0 => .array .int
  | 1 => .array .int
  | 2 => .array .int
  | 3 => .array .int
  | 4 => .int
  | 5 => .int
  | 6 => .int
  | 7 => .int
  | 8 => .int
  | _ => .int
abbrev wsX30 : List Cond := u_ws RX3 TX3 10
theorem nmX3 : ∀ a, a < 10 → ∀ b, b < 10 → a ≠ b → (TX3 a).2.1 ≠ (TX3 b).2.1 := by decide +kernel
theorem tyX3_ok : ∀ k, k < 10 → parseFieldDescriptor (TX3 k).2.2.1 = some (tyX3 k) := by decide +kernel
abbrev cX3_init : ByteArray := prog_5_method_1_code
def yX3_init : MethodName := ⟨RX3, "<init>", "()V"⟩
abbrev cX3_read : ByteArray := prog_5_method_2_code
def yX3_read : MethodName := ⟨RX3, "read", "(LPulledJersey$Tape;LPulledJersey$Law;)Z"⟩
abbrev cX3_scan : ByteArray := prog_5_method_3_code
def yX3_scan : MethodName := ⟨RX3, "scan", "(LPulledJersey$Tape;)V"⟩
abbrev cX3_tokenOf : ByteArray := prog_5_method_4_code
def yX3_tokenOf : MethodName := ⟨RX3, "tokenOf", "(LPulledJersey$Tape;II)I"⟩
abbrev cX3_wordOf : ByteArray := prog_5_method_5_code
def yX3_wordOf : MethodName := ⟨RX3, "wordOf", "(LPulledJersey$Tape;II)I"⟩
abbrev cX3_traitWordOf : ByteArray := prog_5_method_6_code
def yX3_traitWordOf : MethodName := ⟨RX3, "traitWordOf", "(LPulledJersey$Tape;II)I"⟩
abbrev cX3_token : ByteArray := prog_5_method_7_code
def yX3_token : MethodName := ⟨RX3, "token", "()I"⟩
abbrev cX3_value : ByteArray := prog_5_method_8_code
def yX3_value : MethodName := ⟨RX3, "value", "()I"⟩
abbrev cX3_fails : ByteArray := prog_5_method_9_code
def yX3_fails : MethodName := ⟨RX3, "fails", "(I)Z"⟩
abbrev cX3_emit : ByteArray := prog_5_method_10_code
def yX3_emit : MethodName := ⟨RX3, "emit", "(I)V"⟩
abbrev cX3_readLine : ByteArray := prog_5_method_11_code
def yX3_readLine : MethodName := ⟨RX3, "readLine", "()Z"⟩
abbrev cX3_readSign : ByteArray := prog_5_method_12_code
def yX3_readSign : MethodName := ⟨RX3, "readSign", "(I)Z"⟩
abbrev cX3_readCondition : ByteArray := prog_5_method_13_code
def yX3_readCondition : MethodName := ⟨RX3, "readCondition", "(I)Z"⟩
abbrev cX3_readClause : ByteArray := prog_5_method_14_code
def yX3_readClause : MethodName := ⟨RX3, "readClause", "(I)Z"⟩
abbrev cX3_readSum : ByteArray := prog_5_method_15_code
def yX3_readSum : MethodName := ⟨RX3, "readSum", "()Z"⟩
abbrev cX3_readUnit : ByteArray := prog_5_method_16_code
def yX3_readUnit : MethodName := ⟨RX3, "readUnit", "()Z"⟩
abbrev cX3_readDivisor : ByteArray := prog_5_method_17_code
def yX3_readDivisor : MethodName := ⟨RX3, "readDivisor", "()Z"⟩
def RX4 : String := "PulledJersey$Past"
def TX4 : u_T := fun k => match k with
  | 0 => ("PulledJersey$Past", "here", "[J", true)
  | 1 => ("PulledJersey$Past", "wound", "[J", true)
  | 2 => ("PulledJersey$Past", "cuts", "[J", true)
  | 3 => ("PulledJersey$Past", "hour", "[I", true)
  | 4 => ("PulledJersey$Past", "draws", "[I", true)
  | 5 => ("PulledJersey$Past", "lines", "[I", true)
  | 6 => ("PulledJersey$Past", "lengths", "[I", true)
  | 7 => ("PulledJersey$Past", "count", "I", false)
  | _ => ("PulledJersey$Past", "nextSlot", "I", false)
def tyX4 : Nat → FieldType := fun k => match k with
  | 0 => .array .long
  | 1 => .array .long
  | 2 => .array .long
  | 3 => .array .int
  | 4 => .array .int
  | 5 => .array .int
  | 6 => .array .int
  | 7 => .int
  | _ => .int
abbrev wsX40 : List Cond := u_ws RX4 TX4 9
theorem nmX4 : ∀ a, a < 9 → ∀ b, b < 9 → a ≠ b → (TX4 a).2.1 ≠ (TX4 b).2.1 := by decide +kernel
theorem tyX4_ok : ∀ k, k < 9 → parseFieldDescriptor (TX4 k).2.2.1 = some (tyX4 k) := by decide +kernel
abbrev cX4_init : ByteArray := prog_6_method_1_code
def yX4_init : MethodName := ⟨RX4, "<init>", "()V"⟩
abbrev cX4_forget : ByteArray := prog_6_method_2_code
def yX4_forget : MethodName := ⟨RX4, "forget", "()V"⟩
abbrev cX4_keep : ByteArray := prog_6_method_3_code
def yX4_keep : MethodName := ⟨RX4, "keep", "(LPulledJersey$Whole;)V"⟩
abbrev cX4_goBack : ByteArray := prog_6_method_4_code
def yX4_goBack : MethodName := ⟨RX4, "goBack", "(LPulledJersey$Whole;)Z"⟩
def RX5 : String := "PulledJersey$Puller"
def TX5 : u_T := fun k => match k with
  | 0 => ("PulledJersey$Puller", "order", "[I", true)
  | 1 => ("PulledJersey$Puller", "count", "I", false)
  | 2 => ("PulledJersey$Puller", "stop", "I", false)
  | 3 => ("PulledJersey$Puller", "here", "J", false)
  | _ => ("PulledJersey$Puller", "touched", "J", false)
def tyX5 : Nat → FieldType := fun k => match k with
  | 0 => .array .int
  | 1 => .int
  | 2 => .int
  | 3 => .long
  | _ => .long
abbrev wsX50 : List Cond := u_ws RX5 TX5 5
theorem nmX5 : ∀ a, a < 5 → ∀ b, b < 5 → a ≠ b → (TX5 a).2.1 ≠ (TX5 b).2.1 := by decide +kernel
theorem tyX5_ok : ∀ k, k < 5 → parseFieldDescriptor (TX5 k).2.2.1 = some (tyX5 k) := by decide +kernel
abbrev cX5_init : ByteArray := prog_7_method_1_code
def yX5_init : MethodName := ⟨RX5, "<init>", "()V"⟩
abbrev cX5_walk : ByteArray := prog_7_method_2_code
def yX5_walk : MethodName := ⟨RX5, "walk", "(LPulledJersey$Fabric;III)V"⟩
abbrev cX5_comesUndone : ByteArray := prog_7_method_3_code
def yX5_comesUndone : MethodName := ⟨RX5, "comesUndone", "(LPulledJersey$Fabric;I)Z"⟩
def RX6 : String := "PulledJersey$Saver"
def TX6 : u_T := fun k => match k with
  | 0 => ("PulledJersey$Saver", "fewest", "I", false)
  | _ => ("PulledJersey$Saver", "loops", "J", false)
def tyX6 : Nat → FieldType := fun k => match k with
  | 0 => .int
  | _ => .long
abbrev wsX60 : List Cond := u_ws RX6 TX6 2
theorem nmX6 : ∀ a, a < 2 → ∀ b, b < 2 → a ≠ b → (TX6 a).2.1 ≠ (TX6 b).2.1 := by decide +kernel
theorem tyX6_ok : ∀ k, k < 2 → parseFieldDescriptor (TX6 k).2.2.1 = some (tyX6 k) := by decide +kernel
abbrev cX6_init : ByteArray := prog_8_method_1_code
def yX6_init : MethodName := ⟨RX6, "<init>", "()V"⟩
abbrev cX6_search : ByteArray := prog_8_method_2_code
def yX6_search : MethodName := ⟨RX6, "search", "(LPulledJersey$Fabric;I)V"⟩
abbrev cX6_goingWith : ByteArray := prog_8_method_3_code
def yX6_goingWith : MethodName := ⟨RX6, "goingWith", "(LPulledJersey$Fabric;J)J"⟩
abbrev cX6_choose : ByteArray := prog_8_method_4_code
def yX6_choose : MethodName := ⟨RX6, "choose", "(LPulledJersey$Fabric;JIJJ)V"⟩
def RX7 : String := "PulledJersey$Tape"
def TX7 : u_T := fun k => match k with
  | 0 => ("PulledJersey$Tape", "bytes", "[B", true)
  | _ => ("PulledJersey$Tape", "length", "I", false)
def tyX7 : Nat → FieldType := fun k => match k with
  | 0 => .array .byte
  | _ => .int
abbrev wsX70 : List Cond := u_ws RX7 TX7 2
theorem nmX7 : ∀ a, a < 2 → ∀ b, b < 2 → a ≠ b → (TX7 a).2.1 ≠ (TX7 b).2.1 := by decide +kernel
theorem tyX7_ok : ∀ k, k < 2 → parseFieldDescriptor (TX7 k).2.2.1 = some (tyX7 k) := by decide +kernel
abbrev cX7_init : ByteArray := prog_9_method_1_code
def yX7_init : MethodName := ⟨RX7, "<init>", "()V"⟩
abbrev cX7_hasRoom : ByteArray := prog_9_method_2_code
def yX7_hasRoom : MethodName := ⟨RX7, "hasRoom", "()Z"⟩
abbrev cX7_add : ByteArray := prog_9_method_3_code
def yX7_add : MethodName := ⟨RX7, "add", "(I)V"⟩
abbrev cX7_signAt : ByteArray := prog_9_method_4_code
def yX7_signAt : MethodName := ⟨RX7, "signAt", "(I)I"⟩
abbrev cX7_isLetter : ByteArray := prog_9_method_5_code
def yX7_isLetter : MethodName := ⟨RX7, "isLetter", "(I)Z"⟩
abbrev cX7_isDigit : ByteArray := prog_9_method_6_code
def yX7_isDigit : MethodName := ⟨RX7, "isDigit", "(I)Z"⟩
abbrev cX7_behindBlanks : ByteArray := prog_9_method_7_code
def yX7_behindBlanks : MethodName := ⟨RX7, "behindBlanks", "(I)I"⟩
abbrev cX7_behindToken : ByteArray := prog_9_method_8_code
def yX7_behindToken : MethodName := ⟨RX7, "behindToken", "(I)I"⟩
abbrev cX7_spells : ByteArray := prog_9_method_9_code
def yX7_spells : MethodName := ⟨RX7, "spells", "(Ljava/lang/String;II)Z"⟩
abbrev cX7_numberAt : ByteArray := prog_9_method_10_code
def yX7_numberAt : MethodName := ⟨RX7, "numberAt", "(II)I"⟩
def RX8 : String := "PulledJersey$Whole"
def TX8 : u_T := fun k => match k with
  | 0 => ("PulledJersey$Whole", "fabric", "LPulledJersey$Fabric;", true)
  | 1 => ("PulledJersey$Whole", "law", "LPulledJersey$Law;", true)
  | 2 => ("PulledJersey$Whole", "book", "LPulledJersey$Book;", true)
  | 3 => ("PulledJersey$Whole", "wool", "LPulledJersey$Wool;", true)
  | 4 => ("PulledJersey$Whole", "hour", "I", false)
  | _ => ("PulledJersey$Whole", "draws", "I", false)
def tyX8 : Nat → FieldType := fun k => match k with
  | 0 => .object "PulledJersey$Fabric"
  | 1 => .object "PulledJersey$Law"
  | 2 => .object "PulledJersey$Book"
  | 3 => .object "PulledJersey$Wool"
  | 4 => .int
  | _ => .int
abbrev wsX80 : List Cond := u_ws RX8 TX8 6
theorem nmX8 : ∀ a, a < 6 → ∀ b, b < 6 → a ≠ b → (TX8 a).2.1 ≠ (TX8 b).2.1 := by decide +kernel
theorem tyX8_ok : ∀ k, k < 6 → parseFieldDescriptor (TX8 k).2.2.1 = some (tyX8 k) := by decide +kernel
abbrev cX8_init : ByteArray := prog_10_method_1_code
def yX8_init : MethodName := ⟨RX8, "<init>", "()V"⟩
abbrev cX8_begin : ByteArray := prog_10_method_2_code
def yX8_begin : MethodName := ⟨RX8, "begin", "(II)V"⟩
abbrev cX8_copyFrom : ByteArray := prog_10_method_3_code
def yX8_copyFrom : MethodName := ⟨RX8, "copyFrom", "(LPulledJersey$Whole;)V"⟩
abbrev cX8_letGo : ByteArray := prog_10_method_4_code
def yX8_letGo : MethodName := ⟨RX8, "letGo", "(II)V"⟩
abbrev cX8_windUp : ByteArray := prog_10_method_5_code
def yX8_windUp : MethodName := ⟨RX8, "windUp", "(LPulledJersey$Puller;)V"⟩
abbrev cX8_draw : ByteArray := prog_10_method_6_code
def yX8_draw : MethodName := ⟨RX8, "draw", "(I)I"⟩
abbrev cX8_passHour : ByteArray := prog_10_method_7_code
def yX8_passHour : MethodName := ⟨RX8, "passHour", "()I"⟩
abbrev cX8_likelyQuiet : ByteArray := prog_10_method_8_code
def yX8_likelyQuiet : MethodName := ⟨RX8, "likelyQuiet", "()I"⟩
def RX9 : String := "PulledJersey$Wool"
def TX9 : u_T := fun k => match k with
  | 0 => ("PulledJersey$Wool", "lengths", "[I", true)
  | _ => ("PulledJersey$Wool", "count", "I", false)
def tyX9 : Nat → FieldType := fun k => match k with
  | 0 => .array .int
  | _ => .int
abbrev wsX90 : List Cond := u_ws RX9 TX9 2
theorem nmX9 : ∀ a, a < 2 → ∀ b, b < 2 → a ≠ b → (TX9 a).2.1 ≠ (TX9 b).2.1 := by decide +kernel
theorem tyX9_ok : ∀ k, k < 2 → parseFieldDescriptor (TX9 k).2.2.1 = some (tyX9 k) := by decide +kernel
abbrev cX9_init : ByteArray := prog_11_method_1_code
def yX9_init : MethodName := ⟨RX9, "<init>", "()V"⟩
abbrev cX9_copyFrom : ByteArray := prog_11_method_2_code
def yX9_copyFrom : MethodName := ⟨RX9, "copyFrom", "(LPulledJersey$Wool;)V"⟩
abbrev cX9_note : ByteArray := prog_11_method_3_code
def yX9_note : MethodName := ⟨RX9, "note", "(I)V"⟩
abbrev cX9_lengthOf : ByteArray := prog_11_method_4_code
def yX9_lengthOf : MethodName := ⟨RX9, "lengthOf", "(I)I"⟩
abbrev cX9_total : ByteArray := prog_11_method_5_code
def yX9_total : MethodName := ⟨RX9, "total", "()I"⟩
abbrev cX9_fewestFor : ByteArray := prog_11_method_6_code
def yX9_fewestFor : MethodName := ⟨RX9, "fewestFor", "(I)I"⟩
abbrev cX9_longestBut : ByteArray := prog_11_method_7_code
def yX9_longestBut : MethodName := ⟨RX9, "longestBut", "(I)I"⟩
def RX10 : String := "PulledJersey"
def TX10 : u_T := fun k => match k with
  | 0 => ("PulledJersey", "now", "LPulledJersey$Whole;", true)
  | 1 => ("PulledJersey", "kept", "LPulledJersey$Whole;", true)
  | 2 => ("PulledJersey", "past", "LPulledJersey$Past;", true)
  | 3 => ("PulledJersey", "tape", "LPulledJersey$Tape;", true)
  | 4 => ("PulledJersey", "reader", "LPulledJersey$LawReader;", true)
  | 5 => ("PulledJersey", "puller", "LPulledJersey$Puller;", true)
  | 6 => ("PulledJersey", "saver", "LPulledJersey$Saver;", true)
  | _ => ("PulledJersey", "isImageTaken", "Z", false)
def tyX10 : Nat → FieldType := fun k => match k with
  | 0 => .object "PulledJersey$Whole"
  | 1 => .object "PulledJersey$Whole"
  | 2 => .object "PulledJersey$Past"
  | 3 => .object "PulledJersey$Tape"
  | 4 => .object "PulledJersey$LawReader"
  | 5 => .object "PulledJersey$Puller"
  | 6 => .object "PulledJersey$Saver"
  | _ => .boolean
abbrev wsX100 : List Cond := u_ws RX10 TX10 8
theorem nmX10 : ∀ a, a < 8 → ∀ b, b < 8 → a ≠ b → (TX10 a).2.1 ≠ (TX10 b).2.1 := by decide +kernel
theorem tyX10_ok : ∀ k, k < 8 → parseFieldDescriptor (TX10 k).2.2.1 = some (tyX10 k) := by decide +kernel
abbrev cX10_init : ByteArray := prog_1_method_1_code
def yX10_init : MethodName := ⟨RX10, "<init>", "()V"⟩
abbrev cX10_state : ByteArray := prog_1_method_2_code
def yX10_state : MethodName := ⟨RX10, "state", "(I)I"⟩
abbrev cX10_cloth : ByteArray := prog_1_method_3_code
def yX10_cloth : MethodName := ⟨RX10, "cloth", "(II)Z"⟩
abbrev cX10_set : ByteArray := prog_1_method_4_code
def yX10_set : MethodName := ⟨RX10, "set", "(III)Z"⟩
abbrev cX10_gone : ByteArray := prog_1_method_5_code
def yX10_gone : MethodName := ⟨RX10, "gone", "(I)Z"⟩
abbrev cX10_cut : ByteArray := prog_1_method_6_code
def yX10_cut : MethodName := ⟨RX10, "cut", "(I)Z"⟩
abbrev cX10_pull : ByteArray := prog_1_method_7_code
def yX10_pull : MethodName := ⟨RX10, "pull", "(III)I"⟩
abbrev cX10_hours : ByteArray := prog_1_method_8_code
def yX10_hours : MethodName := ⟨RX10, "hours", "(I)I"⟩
abbrev cX10_feed : ByteArray := prog_1_method_9_code
def yX10_feed : MethodName := ⟨RX10, "feed", "(IIIII)I"⟩
abbrev cX10_end : ByteArray := prog_1_method_10_code
def yX10_end : MethodName := ⟨RX10, "end", "(I)Z"⟩
abbrev cX10_text : ByteArray := prog_1_method_11_code
def yX10_text : MethodName := ⟨RX10, "text", "()I"⟩
abbrev cX10_fault : ByteArray := prog_1_method_12_code
def yX10_fault : MethodName := ⟨RX10, "fault", "(I)I"⟩
abbrev cX10_of : ByteArray := prog_1_method_13_code
def yX10_of : MethodName := ⟨RX10, "of", "(II)I"⟩
abbrev cX10_at : ByteArray := prog_1_method_14_code
def yX10_at : MethodName := ⟨RX10, "at", "(II)I"⟩
abbrev cX10_wound : ByteArray := prog_1_method_15_code
def yX10_wound : MethodName := ⟨RX10, "wound", "(I)I"⟩
abbrev cX10_book : ByteArray := prog_1_method_16_code
def yX10_book : MethodName := ⟨RX10, "book", "(II)I"⟩
abbrev cX10_runs : ByteArray := prog_1_method_17_code
def yX10_runs : MethodName := ⟨RX10, "runs", "(II)I"⟩
abbrev cX10_save : ByteArray := prog_1_method_18_code
def yX10_save : MethodName := ⟨RX10, "save", "(II)I"⟩
abbrev cX10_comes : ByteArray := prog_1_method_19_code
def yX10_comes : MethodName := ⟨RX10, "comes", "(III)I"⟩
abbrev cX10_all : ByteArray := prog_1_method_20_code
def yX10_all : MethodName := ⟨RX10, "all", "(I)I"⟩
abbrev cX10_part : ByteArray := prog_1_method_21_code
def yX10_part : MethodName := ⟨RX10, "part", "(IIII)I"⟩
abbrev cX10_join : ByteArray := prog_1_method_22_code
def yX10_join : MethodName := ⟨RX10, "join", "(I)I"⟩
abbrev cX10_quiet : ByteArray := prog_1_method_23_code
def yX10_quiet : MethodName := ⟨RX10, "quiet", "()I"⟩
abbrev cX10_first : ByteArray := prog_1_method_24_code
def yX10_first : MethodName := ⟨RX10, "first", "(I)I"⟩
abbrev cX10_undo : ByteArray := prog_1_method_25_code
def yX10_undo : MethodName := ⟨RX10, "undo", "()Z"⟩
abbrev cX10_image : ByteArray := prog_1_method_26_code
def yX10_image : MethodName := ⟨RX10, "image", "(Z)Z"⟩
abbrev cX10_look : ByteArray := prog_1_method_27_code
def yX10_look : MethodName := ⟨RX10, "look", "(I)I"⟩
abbrev cX10_tellOfStitch : ByteArray := prog_1_method_28_code
def yX10_tellOfStitch : MethodName := ⟨RX10, "tellOfStitch", "(III)Z"⟩
abbrev cX10_undoesAll : ByteArray := prog_1_method_29_code
def yX10_undoesAll : MethodName := ⟨RX10, "undoesAll", "(II)Z"⟩
abbrev cX10_bitOf : ByteArray := prog_1_method_30_code
def yX10_bitOf : MethodName := ⟨RX10, "bitOf", "(JI)I"⟩
abbrev cX10_numberIn : ByteArray := prog_1_method_31_code
def yX10_numberIn : MethodName := ⟨RX10, "numberIn", "(JI)I"⟩
abbrev cX10_rectangle : ByteArray := prog_1_method_32_code
def yX10_rectangle : MethodName := ⟨RX10, "rectangle", "(IIII)J"⟩
def RX11 : String := "PulledJerseyModel"
def TX11 : u_T := fun k => match k with
  | 0 => ("PulledJerseyModel", "w", "[I", true)
  | 1 => ("PulledJerseyModel", "kept", "[I", true)
  | 2 => ("PulledJerseyModel", "back", "[I", true)
  | 3 => ("PulledJerseyModel", "backMany", "I", false)
  | 4 => ("PulledJerseyModel", "hasImage", "Z", false)
  | 5 => ("PulledJerseyModel", "freshLine", "[I", true)
  | 6 => ("PulledJerseyModel", "freshStep", "[I", true)
  | 7 => ("PulledJerseyModel", "tape", "[I", true)
  | 8 => ("PulledJerseyModel", "pile", "[I", true)
  | 9 => ("PulledJerseyModel", "facts", "[I", true)
  | 10 => ("PulledJerseyModel", "lines", "I", false)
  | 11 => ("PulledJerseyModel", "steps", "I", false)
  | 12 => ("PulledJerseyModel", "taped", "I", false)
  | 13 => ("PulledJerseyModel", "at", "I", false)
  | 14 => ("PulledJerseyModel", "token", "I", false)
  | 15 => ("PulledJerseyModel", "tokenAt", "I", false)
  | 16 => ("PulledJerseyModel", "value", "I", false)
  | 17 => ("PulledJerseyModel", "wrong", "I", false)
  | 18 => ("PulledJerseyModel", "wrongAt", "I", false)
  | 19 => ("PulledJerseyModel", "faultKind", "I", false)
  | 20 => ("PulledJerseyModel", "depth", "I", false)
  | 21 => ("PulledJerseyModel", "faultPlace", "I", false)
  | 22 => ("PulledJerseyModel", "here", "[I", true)
  | 23 => ("PulledJerseyModel", "caught", "[I", true)
  | 24 => ("PulledJerseyModel", "holders", "[I", true)
  | 25 => ("PulledJerseyModel", "queue", "[I", true)
  | 26 => ("PulledJerseyModel", "pulled", "I", false)
  | 27 => ("PulledJerseyModel", "passed", "I", false)
  | 28 => ("PulledJerseyModel", "stopped", "I", false)
  | 29 => ("PulledJerseyModel", "ran", "[I", true)
  | 30 => ("PulledJerseyModel", "saving", "[I", true)
  | 31 => ("PulledJerseyModel", "saved", "[I", true)
  | _ => ("PulledJerseyModel", "fewest", "I", false)
def tyX11 : Nat → FieldType := fun k => match k with
  | 0 => .array .int
  | 1 => .array .int
  | 2 => .array .int
  | 3 => .int
  | 4 => .boolean
  | 5 => .array .int
  | 6 => .array .int
  | 7 => .array .int
  | 8 => .array .int
  | 9 => .array .int
  | 10 => .int
  | 11 => .int
  | 12 => .int
  | 13 => .int
  | 14 => .int
  | 15 => .int
  | 16 => .int
  | 17 => .int
  | 18 => .int
  | 19 => .int
  | 20 => .int
  | 21 => .int
  | 22 => .array .int
  | 23 => .array .int
  | 24 => .array .int
  | 25 => .array .int
  | 26 => .int
  | 27 => .int
  | 28 => .int
  | 29 => .array .int
  | 30 => .array .int
  | 31 => .array .int
  | _ => .int
abbrev wsX110 : List Cond := u_ws RX11 TX11 33
theorem nmX11 : ∀ a, a < 33 → ∀ b, b < 33 → a ≠ b → (TX11 a).2.1 ≠ (TX11 b).2.1 := by decide +kernel
theorem tyX11_ok : ∀ k, k < 33 → parseFieldDescriptor (TX11 k).2.2.1 = some (tyX11 k) := by decide +kernel
abbrev cX11_init : ByteArray := prog_13_method_1_code
def yX11_init : MethodName := ⟨RX11, "<init>", "()V"⟩
abbrev cX11_begins : ByteArray := prog_13_method_2_code
def yX11_begins : MethodName := ⟨RX11, "begins", "(II)V"⟩
abbrev cX11_isIn : ByteArray := prog_13_method_3_code
def yX11_isIn : MethodName := ⟨RX11, "isIn", "(III)Z"⟩
abbrev cX11_least : ByteArray := prog_13_method_4_code
def yX11_least : MethodName := ⟨RX11, "least", "(II)I"⟩
abbrev cX11_most : ByteArray := prog_13_method_5_code
def yX11_most : MethodName := ⟨RX11, "most", "(II)I"⟩
abbrev cX11_isStitch : ByteArray := prog_13_method_6_code
def yX11_isStitch : MethodName := ⟨RX11, "isStitch", "(I)Z"⟩
abbrev cX11_isPlace : ByteArray := prog_13_method_7_code
def yX11_isPlace : MethodName := ⟨RX11, "isPlace", "(I)Z"⟩
abbrev cX11_placeOf : ByteArray := prog_13_method_8_code
def yX11_placeOf : MethodName := ⟨RX11, "placeOf", "(I)I"⟩
abbrev cX11_stitchAt : ByteArray := prog_13_method_9_code
def yX11_stitchAt : MethodName := ⟨RX11, "stitchAt", "(I)I"⟩
abbrev cX11_state : ByteArray := prog_13_method_10_code
def yX11_state : MethodName := ⟨RX11, "state", "(I)I"⟩
abbrev cX11_draw : ByteArray := prog_13_method_11_code
def yX11_draw : MethodName := ⟨RX11, "draw", "(I)I"⟩
abbrev cX11_cloth : ByteArray := prog_13_method_12_code
def yX11_cloth : MethodName := ⟨RX11, "cloth", "(II)Z"⟩
abbrev cX11_set : ByteArray := prog_13_method_13_code
def yX11_set : MethodName := ⟨RX11, "set", "(III)Z"⟩
abbrev cX11_comesBack : ByteArray := prog_13_method_14_code
def yX11_comesBack : MethodName := ⟨RX11, "comesBack", "(I)V"⟩
abbrev cX11_feed : ByteArray := prog_13_method_15_code
def yX11_feed : MethodName := ⟨RX11, "feed", "(IIIII)I"⟩
abbrev cX11_end : ByteArray := prog_13_method_16_code
def yX11_end : MethodName := ⟨RX11, "end", "(I)Z"⟩
abbrev cX11_see : ByteArray := prog_13_method_17_code
def yX11_see : MethodName := ⟨RX11, "see", "(I)I"⟩
abbrev cX11_isLetter : ByteArray := prog_13_method_18_code
def yX11_isLetter : MethodName := ⟨RX11, "isLetter", "(I)Z"⟩
abbrev cX11_isDigit : ByteArray := prog_13_method_19_code
def yX11_isDigit : MethodName := ⟨RX11, "isDigit", "(I)Z"⟩
abbrev cX11_is : ByteArray := prog_13_method_20_code
def yX11_is : MethodName := ⟨RX11, "is", "(Ljava/lang/String;)Z"⟩
abbrev cX11_nameWord : ByteArray := prog_13_method_21_code
def yX11_nameWord : MethodName := ⟨RX11, "nameWord", "()I"⟩
abbrev cX11_word : ByteArray := prog_13_method_22_code
def yX11_word : MethodName := ⟨RX11, "word", "()I"⟩
abbrev cX11_next0 : ByteArray := prog_13_method_23_code
def yX11_next0 : MethodName := ⟨RX11, "next0", "()V"⟩
abbrev cX11_bad : ByteArray := prog_13_method_24_code
def yX11_bad : MethodName := ⟨RX11, "bad", "(I)Z"⟩
abbrev cX11_need : ByteArray := prog_13_method_25_code
def yX11_need : MethodName := ⟨RX11, "need", "(I)Z"⟩
abbrev cX11_lay : ByteArray := prog_13_method_26_code
def yX11_lay : MethodName := ⟨RX11, "lay", "(II)V"⟩
abbrev cX11_opens : ByteArray := prog_13_method_27_code
def yX11_opens : MethodName := ⟨RX11, "opens", "()Z"⟩
abbrev cX11_sumUp : ByteArray := prog_13_method_28_code
def yX11_sumUp : MethodName := ⟨RX11, "sumUp", "()Z"⟩
abbrev cX11_product : ByteArray := prog_13_method_29_code
def yX11_product : MethodName := ⟨RX11, "product", "()Z"⟩
abbrev cX11_unit : ByteArray := prog_13_method_30_code
def yX11_unit : MethodName := ⟨RX11, "unit", "()Z"⟩
abbrev cX11_any : ByteArray := prog_13_method_31_code
def yX11_any : MethodName := ⟨RX11, "any", "()Z"⟩
abbrev cX11_every : ByteArray := prog_13_method_32_code
def yX11_every : MethodName := ⟨RX11, "every", "()Z"⟩
abbrev cX11_oneTest : ByteArray := prog_13_method_33_code
def yX11_oneTest : MethodName := ⟨RX11, "oneTest", "()Z"⟩
abbrev cX11_aLine : ByteArray := prog_13_method_34_code
def yX11_aLine : MethodName := ⟨RX11, "aLine", "()Z"⟩
abbrev cX11_text : ByteArray := prog_13_method_35_code
def yX11_text : MethodName := ⟨RX11, "text", "()I"⟩
abbrev cX11_fault : ByteArray := prog_13_method_36_code
def yX11_fault : MethodName := ⟨RX11, "fault", "(I)I"⟩
abbrev cX11_both : ByteArray := prog_13_method_37_code
def yX11_both : MethodName := ⟨RX11, "both", "(III)I"⟩
abbrev cX11_comesTo : ByteArray := prog_13_method_38_code
def yX11_comesTo : MethodName := ⟨RX11, "comesTo", "(II)I"⟩
abbrev cX11_laysNow : ByteArray := prog_13_method_39_code
def yX11_laysNow : MethodName := ⟨RX11, "laysNow", "()V"⟩
abbrev cX11_drawnOne : ByteArray := prog_13_method_40_code
def yX11_drawnOne : MethodName := ⟨RX11, "drawnOne", "(I)I"⟩
abbrev cX11_drawnOther : ByteArray := prog_13_method_41_code
def yX11_drawnOther : MethodName := ⟨RX11, "drawnOther", "(I)I"⟩
abbrev cX11_holds : ByteArray := prog_13_method_42_code
def yX11_holds : MethodName := ⟨RX11, "holds", "(II)V"⟩
abbrev cX11_laysHolders : ByteArray := prog_13_method_43_code
def yX11_laysHolders : MethodName := ⟨RX11, "laysHolders", "()V"⟩
abbrev cX11_isHeld : ByteArray := prog_13_method_44_code
def yX11_isHeld : MethodName := ⟨RX11, "isHeld", "(I)Z"⟩
abbrev cX11_isLoose : ByteArray := prog_13_method_45_code
def yX11_isLoose : MethodName := ⟨RX11, "isLoose", "(I)Z"⟩
abbrev cX11_goes : ByteArray := prog_13_method_46_code
def yX11_goes : MethodName := ⟨RX11, "goes", "(I)V"⟩
abbrev cX11_allRun : ByteArray := prog_13_method_47_code
def yX11_allRun : MethodName := ⟨RX11, "allRun", "()I"⟩
abbrev cX11_isQueued : ByteArray := prog_13_method_48_code
def yX11_isQueued : MethodName := ⟨RX11, "isQueued", "(II)Z"⟩
abbrev cX11_oddsOf : ByteArray := prog_13_method_49_code
def yX11_oddsOf : MethodName := ⟨RX11, "oddsOf", "(I)I"⟩
abbrev cX11_keeps : ByteArray := prog_13_method_50_code
def yX11_keeps : MethodName := ⟨RX11, "keeps", "()V"⟩
abbrev cX11_undo : ByteArray := prog_13_method_51_code
def yX11_undo : MethodName := ⟨RX11, "undo", "()Z"⟩
abbrev cX11_isGone : ByteArray := prog_13_method_52_code
def yX11_isGone : MethodName := ⟨RX11, "isGone", "(II)V"⟩
abbrev cX11_gone : ByteArray := prog_13_method_53_code
def yX11_gone : MethodName := ⟨RX11, "gone", "(I)Z"⟩
abbrev cX11_cut : ByteArray := prog_13_method_54_code
def yX11_cut : MethodName := ⟨RX11, "cut", "(I)Z"⟩
abbrev cX11_isEnd : ByteArray := prog_13_method_55_code
def yX11_isEnd : MethodName := ⟨RX11, "isEnd", "(II)Z"⟩
abbrev cX11_lengthOf : ByteArray := prog_13_method_56_code
def yX11_lengthOf : MethodName := ⟨RX11, "lengthOf", "(I)I"⟩
abbrev cX11_pulls : ByteArray := prog_13_method_57_code
def yX11_pulls : MethodName := ⟨RX11, "pulls", "(IIIZ)V"⟩
abbrev cX11_winds : ByteArray := prog_13_method_58_code
def yX11_winds : MethodName := ⟨RX11, "winds", "(II)V"⟩
abbrev cX11_pull : ByteArray := prog_13_method_59_code
def yX11_pull : MethodName := ⟨RX11, "pull", "(III)I"⟩
abbrev cX11_anHour : ByteArray := prog_13_method_60_code
def yX11_anHour : MethodName := ⟨RX11, "anHour", "()I"⟩
abbrev cX11_hours : ByteArray := prog_13_method_61_code
def yX11_hours : MethodName := ⟨RX11, "hours", "(I)I"⟩
abbrev cX11_of : ByteArray := prog_13_method_62_code
def yX11_of : MethodName := ⟨RX11, "of", "(II)I"⟩
abbrev cX11_at : ByteArray := prog_13_method_63_code
def yX11_at : MethodName := ⟨RX11, "at", "(II)I"⟩
abbrev cX11_wound : ByteArray := prog_13_method_64_code
def yX11_wound : MethodName := ⟨RX11, "wound", "(I)I"⟩
abbrev cX11_book : ByteArray := prog_13_method_65_code
def yX11_book : MethodName := ⟨RX11, "book", "(II)I"⟩
abbrev cX11_runs : ByteArray := prog_13_method_66_code
def yX11_runs : MethodName := ⟨RX11, "runs", "(II)I"⟩
abbrev cX11_canCatch : ByteArray := prog_13_method_67_code
def yX11_canCatch : MethodName := ⟨RX11, "canCatch", "(I)Z"⟩
abbrev cX11_saves : ByteArray := prog_13_method_68_code
def yX11_saves : MethodName := ⟨RX11, "saves", "(III)V"⟩
abbrev cX11_hereMany : ByteArray := prog_13_method_69_code
def yX11_hereMany : MethodName := ⟨RX11, "hereMany", "()I"⟩
abbrev cX11_save : ByteArray := prog_13_method_70_code
def yX11_save : MethodName := ⟨RX11, "save", "(II)I"⟩
abbrev cX11_comes : ByteArray := prog_13_method_71_code
def yX11_comes : MethodName := ⟨RX11, "comes", "(III)I"⟩
abbrev cX11_all : ByteArray := prog_13_method_72_code
def yX11_all : MethodName := ⟨RX11, "all", "(I)I"⟩
abbrev cX11_isInside : ByteArray := prog_13_method_73_code
def yX11_isInside : MethodName := ⟨RX11, "isInside", "(IIIII)Z"⟩
abbrev cX11_part : ByteArray := prog_13_method_74_code
def yX11_part : MethodName := ⟨RX11, "part", "(IIII)I"⟩
abbrev cX11_join : ByteArray := prog_13_method_75_code
def yX11_join : MethodName := ⟨RX11, "join", "(I)I"⟩
abbrev cX11_quiet : ByteArray := prog_13_method_76_code
def yX11_quiet : MethodName := ⟨RX11, "quiet", "()I"⟩
abbrev cX11_isSoBy : ByteArray := prog_13_method_77_code
def yX11_isSoBy : MethodName := ⟨RX11, "isSoBy", "(I)Z"⟩
abbrev cX11_first : ByteArray := prog_13_method_78_code
def yX11_first : MethodName := ⟨RX11, "first", "(I)I"⟩
abbrev cX11_image : ByteArray := prog_13_method_79_code
def yX11_image : MethodName := ⟨RX11, "image", "(Z)Z"⟩
abbrev cX11_cuts : ByteArray := prog_13_method_80_code
def yX11_cuts : MethodName := ⟨RX11, "cuts", "()I"⟩
abbrev cX11_look : ByteArray := prog_13_method_81_code
def yX11_look : MethodName := ⟨RX11, "look", "(I)I"⟩
def RJ13 : String := "java/lang/Long"
def TJ13 : u_T := fun k => match k with
  | _ => ("", "", "", false)
def tyJ13 : Nat → FieldType := fun k => match k with
  | _ => .int
abbrev wsJ130 : List Cond := u_ws RJ13 TJ13 0
theorem nmJ13 : ∀ a, a < 0 → ∀ b, b < 0 → a ≠ b → (TJ13 a).2.1 ≠ (TJ13 b).2.1 := by decide +kernel
theorem tyJ13_ok : ∀ k, k < 0 → parseFieldDescriptor (TJ13 k).2.2.1 = some (tyJ13 k) := by decide +kernel
abbrev cJ13_bitCount_95d88 : ByteArray := prog_14_method_50_code
def yJ13_bitCount_95d88 : MethodName := ⟨RJ13, "bitCount", "(J)I"⟩
def RJ9 : String := "java/lang/Math"
def TJ9 : u_T := fun k => match k with
  | _ => ("", "", "", false)
def tyJ9 : Nat → FieldType := fun k => match k with
  | _ => .int
abbrev wsJ90 : List Cond := u_ws RJ9 TJ9 0
theorem nmJ9 : ∀ a, a < 0 → ∀ b, b < 0 → a ≠ b → (TJ9 a).2.1 ≠ (TJ9 b).2.1 := by decide +kernel
theorem tyJ9_ok : ∀ k, k < 0 → parseFieldDescriptor (TJ9 k).2.2.1 = some (tyJ9 k) := by decide +kernel
abbrev cJ9_max_7cf53 : ByteArray := prog_15_method_65_code
def yJ9_max_7cf53 : MethodName := ⟨RJ9, "max", "(II)I"⟩
abbrev cJ9_min_7cf53 : ByteArray := prog_15_method_69_code
def yJ9_min_7cf53 : MethodName := ⟨RJ9, "min", "(II)I"⟩
def RJ0 : String := "java/lang/String"
def TJ0 : u_T := fun k => match k with
  | _ => ("", "", "", false)
def tyJ0 : Nat → FieldType := fun k => match k with
  | _ => .int
abbrev wsJ00 : List Cond := u_ws RJ0 TJ0 0
theorem nmJ0 : ∀ a, a < 0 → ∀ b, b < 0 → a ≠ b → (TJ0 a).2.1 ≠ (TJ0 b).2.1 := by decide +kernel
theorem tyJ0_ok : ∀ k, k < 0 → parseFieldDescriptor (TJ0 k).2.2.1 = some (tyJ0 k) := by decide +kernel
abbrev cJ0_length_8abf5 : ByteArray := prog_16_method_54_code
def yJ0_length_8abf5 : MethodName := ⟨RJ0, "length", "()I"⟩
abbrev cJ0_charAt_5068e : ByteArray := prog_16_method_56_code
def yJ0_charAt_5068e : MethodName := ⟨RJ0, "charAt", "(I)C"⟩
abbrev cJ0_coder_7d493 : ByteArray := prog_16_method_152_code
def yJ0_coder_7d493 : MethodName := ⟨RJ0, "coder", "()B"⟩
abbrev cJ0_isLatin1_aae02 : ByteArray := prog_16_method_154_code
def yJ0_isLatin1_aae02 : MethodName := ⟨RJ0, "isLatin1", "()Z"⟩
abbrev cJ0_checkIndex_df160 : ByteArray := prog_16_method_155_code
def yJ0_checkIndex_df160 : MethodName := ⟨RJ0, "checkIndex", "(II)V"⟩
def RJ1 : String := "java/lang/StringLatin1"
def TJ1 : u_T := fun k => match k with
  | _ => ("", "", "", false)
def tyJ1 : Nat → FieldType := fun k => match k with
  | _ => .int
abbrev wsJ10 : List Cond := u_ws RJ1 TJ1 0
theorem nmJ1 : ∀ a, a < 0 → ∀ b, b < 0 → a ≠ b → (TJ1 a).2.1 ≠ (TJ1 b).2.1 := by decide +kernel
theorem tyJ1_ok : ∀ k, k < 0 → parseFieldDescriptor (TJ1 k).2.2.1 = some (tyJ1 k) := by decide +kernel
abbrev cJ1_charAt_3b067 : ByteArray := prog_17_method_2_code
def yJ1_charAt_3b067 : MethodName := ⟨RJ1, "charAt", "([BI)C"⟩
def RJ2 : String := "java/lang/StringUTF16"
def TJ2 : u_T := fun k => match k with
  | _ => ("", "", "", false)
def tyJ2 : Nat → FieldType := fun k => match k with
  | _ => .int
abbrev wsJ20 : List Cond := u_ws RJ2 TJ2 0
theorem nmJ2 : ∀ a, a < 0 → ∀ b, b < 0 → a ≠ b → (TJ2 a).2.1 ≠ (TJ2 b).2.1 := by decide +kernel
theorem tyJ2_ok : ∀ k, k < 0 → parseFieldDescriptor (TJ2 k).2.2.1 = some (tyJ2 k) := by decide +kernel
abbrev cJ2_getChar_3b067 : ByteArray := prog_18_method_5_code
def yJ2_getChar_3b067 : MethodName := ⟨RJ2, "getChar", "([BI)C"⟩
abbrev cJ2_length_9d52b : ByteArray := prog_18_method_6_code
def yJ2_length_9d52b : MethodName := ⟨RJ2, "length", "([B)I"⟩
abbrev cJ2_charAt_3b067 : ByteArray := prog_18_method_83_code
def yJ2_charAt_3b067 : MethodName := ⟨RJ2, "charAt", "([BI)C"⟩
abbrev cJ2_checkIndex_2214a : ByteArray := prog_18_method_91_code
def yJ2_checkIndex_2214a : MethodName := ⟨RJ2, "checkIndex", "(I[B)V"⟩
def RJ10 : String := "java/lang/System"
def TJ10 : u_T := fun k => match k with
  | _ => ("", "", "", false)
def tyJ10 : Nat → FieldType := fun k => match k with
  | _ => .int
abbrev wsJ100 : List Cond := u_ws RJ10 TJ10 0
theorem nmJ10 : ∀ a, a < 0 → ∀ b, b < 0 → a ≠ b → (TJ10 a).2.1 ≠ (TJ10 b).2.1 := by decide +kernel
theorem tyJ10_ok : ∀ k, k < 0 → parseFieldDescriptor (TJ10 k).2.2.1 = some (tyJ10 k) := by decide +kernel
def RJ3 : String := "jdk/internal/util/Preconditions"
def TJ3 : u_T := fun k => match k with
  | _ => ("", "", "", false)
def tyJ3 : Nat → FieldType := fun k => match k with
  | _ => .int
abbrev wsJ30 : List Cond := u_ws RJ3 TJ3 0
theorem nmJ3 : ∀ a, a < 0 → ∀ b, b < 0 → a ≠ b → (TJ3 a).2.1 ≠ (TJ3 b).2.1 := by decide +kernel
theorem tyJ3_ok : ∀ k, k < 0 → parseFieldDescriptor (TJ3 k).2.2.1 = some (tyJ3 k) := by decide +kernel
abbrev cJ3_checkIndex_8e157 : ByteArray := prog_20_method_11_code
def yJ3_checkIndex_8e157 : MethodName := ⟨RJ3, "checkIndex", "(IILjava/util/function/BiFunction;)I"⟩
def RL : String := "PulledJerseyLaw"
abbrev cL_law : ByteArray := code
def yL_law : MethodName := ⟨RL, "law", "([I)Z"⟩
abbrev vwCl : List vw_C := [(RX0, TX0, 4), (RX1, TX1, 10), (RX2, TX2, 5), (RX3, TX3, 10), (RX4, TX4, 9), (RX5, TX5, 5), (RX6, TX6, 2), (RX7, TX7, 2), (RX8, TX8, 6), (RX9, TX9, 2), (RX10, TX10, 8), (RX11, TX11, 33)]
theorem inX0 : ∀ w ∈ wsX00, w ∈ lw_tbl := by decide +kernel
theorem inX1 : ∀ w ∈ wsX10, w ∈ lw_tbl := by decide +kernel
theorem inX2 : ∀ w ∈ wsX20, w ∈ lw_tbl := by decide +kernel
theorem inX3 : ∀ w ∈ wsX30, w ∈ lw_tbl := by decide +kernel
theorem inX4 : ∀ w ∈ wsX40, w ∈ lw_tbl := by decide +kernel
theorem inX5 : ∀ w ∈ wsX50, w ∈ lw_tbl := by decide +kernel
theorem inX6 : ∀ w ∈ wsX60, w ∈ lw_tbl := by decide +kernel
theorem inX7 : ∀ w ∈ wsX70, w ∈ lw_tbl := by decide +kernel
theorem inX8 : ∀ w ∈ wsX80, w ∈ lw_tbl := by decide +kernel
theorem inX9 : ∀ w ∈ wsX90, w ∈ lw_tbl := by decide +kernel
theorem inX10 : ∀ w ∈ wsX100, w ∈ lw_tbl := by decide +kernel
theorem inX11 : ∀ w ∈ wsX110, w ∈ lw_tbl := by decide +kernel
theorem inJ13 : ∀ w ∈ wsJ130, w ∈ lw_tbl := by decide +kernel
theorem inJ9 : ∀ w ∈ wsJ90, w ∈ lw_tbl := by decide +kernel
theorem inJ0 : ∀ w ∈ wsJ00, w ∈ lw_tbl := by decide +kernel
theorem inJ1 : ∀ w ∈ wsJ10, w ∈ lw_tbl := by decide +kernel
theorem inJ2 : ∀ w ∈ wsJ20, w ∈ lw_tbl := by decide +kernel
theorem inJ10 : ∀ w ∈ wsJ100, w ∈ lw_tbl := by decide +kernel
theorem inJ3 : ∀ w ∈ wsJ30, w ∈ lw_tbl := by decide +kernel
end
section
/-! THE BASE. A world is a list of cells by their numbers: objects whose fields are ints, longs or fixed references, rows of ints, longs, bytes. Its state: pj_S: of cell k the int (the long) at field or place j. -/
abbrev pj_S : Type := (Nat → Nat → Int32) × (Nat → Nat → Int64)
def pj_sI (z : pj_S) (k j : Nat) (v : Int32) : pj_S := (fun a => if a = k then upd (z.1 a) j v else z.1 a, z.2)
def pj_sJ (z : pj_S) (k j : Nat) (v : Int64) : pj_S := (z.1, fun a => if a = k then vp_updL (z.2 a) j v else z.2 a)
/-- a row of ints copied into another -/
def pj_sC (z : pj_S) (k0 k1 : Nat) (sp dp n : Nat) : pj_S := (fun a => if a = k1 then va_cpy (z.1 k0) (z.1 k1) sp dp n else z.1 a, z.2)
/-- a cell's form: an object (number of its class; its fields: 0 int, 1 long, 2 a reference to cell k), or a row (length; 0 int, 1 long, 2 byte) -/
abbrev pj_Y : Type := (Nat × List (Nat × Nat)) ⊕ (Nat × Nat)
/-- tables, addresses, array classes, forms, and addresses of what is static -/
abbrev pj_B : Type := va_G × (Nat → Nat) × (ClassId × ClassId × ClassId) × List pj_Y × Nat × (Nat → Nat) × (Nat → Nat)
def pj_fv (ad : Nat → Nat) (z : pj_S) (k j : Nat) (d : Nat × Nat) : Value := if d.1 = 0 then .int (z.1 k j) else if d.1 = 1 then .long (z.2 k j) else .ref (ad d.2)
def pj_e (ad : Nat → Nat) (cs : ClassId × ClassId × ClassId) (z : pj_S) (k : Nat) (y : pj_Y) : va_E := match y with
  | .inl o => .inr (o.1, o.2.mapIdx (fun j d => pj_fv ad z k j d))
  | .inr a => if a.2 = 0 then .inl (cs.1, a.1, .inl (z.1 k)) else if a.2 = 1 then .inl (cs.2.1, a.1, .inr (.inl (z.2 k))) else .inl (cs.2.2, a.1, .inl (z.1 k))
def pj_w (B : pj_B) (z : pj_S) : va_W := B.2.2.2.1.mapIdx (fun k y => (B.2.1 k, pj_e B.2.1 B.2.2.1 z k y))
def pj_ar (B : pj_B) (sz : Nat) : Nat → Prop := fun q => (∃ k, k < B.2.2.2.1.length ∧ q = B.2.1 k) ∨ sz ≤ q
def pj_apart (B : pj_B) : Prop := ∀ i j, i < B.2.2.2.1.length → j < B.2.2.2.1.length → B.2.1 i = B.2.1 j → i = j
theorem pj_wg {B : pj_B} {z : pj_S} {k : Nat} {y : pj_Y} (h : B.2.2.2.1[k]? = some y) : (pj_w B z)[k]? = some (B.2.1 k, pj_e B.2.1 B.2.2.1 z k y) := by
  simp [pj_w, List.getElem?_mapIdx, h]
theorem pj_wi {B : pj_B} {z : pj_S} {k : Nat} {q : Nat × va_E} (h : (pj_w B z)[k]? = some q) : k < B.2.2.2.1.length ∧ q.1 = B.2.1 k := by
  have h1 := (List.getElem?_eq_some_iff.mp h).1
  simp only [pj_w, List.length_mapIdx] at h1
  refine ⟨h1, ?_⟩
  simp only [pj_w, List.getElem?_mapIdx, Option.map_eq_some_iff] at h
  obtain ⟨y, -, rfl⟩ := h
  rfl
theorem pj_wD {B : pj_B} {A : Nat → Prop} (h : pj_apart B) (hA : ∀ k, k < B.2.2.2.1.length → A (B.2.1 k)) (z : pj_S) : va_D A (pj_w B z) := by
  refine ⟨fun i j p q hi hj e => ?_, fun k q hk => ?_⟩
  · obtain ⟨i1, i2⟩ := pj_wi hi
    obtain ⟨j1, j2⟩ := pj_wi hj
    exact h i j i1 j1 (by rw [← i2, ← j2, e])
  · obtain ⟨k1, k2⟩ := pj_wi hk
    rw [k2]
    exact hA k k1
theorem pj_ws_ {B : pj_B} {z z' : pj_S} {k : Nat} {y : pj_Y} (h : B.2.2.2.1[k]? = some y) (h1 : ∀ a, a ≠ k → z'.1 a = z.1 a) (h2 : ∀ a, a ≠ k → z'.2 a = z.2 a) : (pj_w B z).set k (B.2.1 k, pj_e B.2.1 B.2.2.1 z' k y) = pj_w B z' := by
  apply List.ext_getElem?
  intro i
  have hl := (List.getElem?_eq_some_iff.mp h).1
  by_cases hi : i = k
  · subst hi
    rw [List.getElem?_set_self (by simp [pj_w, hl]), pj_wg h]
  · rw [List.getElem?_set_ne (Ne.symm hi)]
    cases hy : B.2.2.2.1[i]? with
    | none => simp [pj_w, List.getElem?_mapIdx, hy]
    | some y2 =>
      rw [pj_wg hy, pj_wg hy]
      have e1 := h1 i hi
      have e2 := h2 i hi
      congr 2
      cases y2 with
      | inl o => simp [pj_e, pj_fv, e1, e2]
      | inr a => simp [pj_e, e1, e2]
theorem pj_fsI {ad : Nat → Nat} {z : pj_S} {k j : Nat} {v : Int32} {l : List (Nat × Nat)} {n : Nat} (h : l[j]? = some (0, n)) : (l.mapIdx (fun i d => pj_fv ad z k i d)).set j (.int v) = l.mapIdx (fun i d => pj_fv ad (pj_sI z k j v) k i d) := by
  apply List.ext_getElem?
  intro i
  have hl := (List.getElem?_eq_some_iff.mp h).1
  by_cases hi : i = j
  · subst hi
    rw [List.getElem?_set_self (by simp [hl])]
    simp [List.getElem?_mapIdx, h, pj_fv, pj_sI, upd]
  · rw [List.getElem?_set_ne (Ne.symm hi)]
    simp [List.getElem?_mapIdx, pj_fv, pj_sI, upd, hi]
theorem pj_fsJ {ad : Nat → Nat} {z : pj_S} {k j : Nat} {v : Int64} {l : List (Nat × Nat)} {n : Nat} (h : l[j]? = some (1, n)) : (l.mapIdx (fun i d => pj_fv ad z k i d)).set j (.long v) = l.mapIdx (fun i d => pj_fv ad (pj_sJ z k j v) k i d) := by
  apply List.ext_getElem?
  intro i
  have hl := (List.getElem?_eq_some_iff.mp h).1
  by_cases hi : i = j
  · subst hi
    rw [List.getElem?_set_self (by simp [hl])]
    simp [List.getElem?_mapIdx, h, pj_fv, pj_sJ, vp_updL]
  · rw [List.getElem?_set_ne (Ne.symm hi)]
    simp [List.getElem?_mapIdx, pj_fv, pj_sJ, vp_updL, hi]
/-! what is static: array classes, nest mates' links, a constant row, Strings -/
def pj_tbl : List Cond := lw_tbl.filter goodWord
def pj_lenS : List Nat := [3, 4, 2, 3, 3, 4, 3, 6, 6, 5, 4, 4]
def pj_bytS : List (List Int32) := [[114, 117, 110], [119, 104, 101, 110], [111, 114], [97, 110, 100], [110, 111, 116], [107, 105, 110, 100], [114, 111, 119], [99, 111, 108, 117, 109, 110], [98, 101, 115, 105, 100, 101], [98, 101, 108, 111, 119], [104, 111, 117, 114], [103, 111, 110, 101]]
def pj_nl : List (String × Nat × MethodName) := [("PulledJersey", 9, ⟨"PulledJersey$Whole", "<init>", "()V"⟩), ("PulledJersey$Whole", 11, ⟨"PulledJersey$Fabric", "<init>", "()V"⟩), ("PulledJersey$Whole", 20, ⟨"PulledJersey$Law", "<init>", "()V"⟩), ("PulledJersey$Whole", 27, ⟨"PulledJersey$Book", "<init>", "()V"⟩), ("PulledJersey$Whole", 34, ⟨"PulledJersey$Wool", "<init>", "()V"⟩), ("PulledJersey", 21, ⟨"PulledJersey$Past", "<init>", "()V"⟩), ("PulledJersey", 28, ⟨"PulledJersey$Tape", "<init>", "()V"⟩), ("PulledJersey", 35, ⟨"PulledJersey$LawReader", "<init>", "()V"⟩), ("PulledJersey", 42, ⟨"PulledJersey$Puller", "<init>", "()V"⟩), ("PulledJersey", 49, ⟨"PulledJersey$Saver", "<init>", "()V"⟩), ("PulledJersey$Fabric", 22, ⟨"PulledJersey", "rectangle", "(IIII)J"⟩), ("PulledJersey$Fabric", 48, ⟨"PulledJersey", "bitOf", "(JI)I"⟩), ("PulledJersey$Puller", 44, ⟨"PulledJersey", "bitOf", "(JI)I"⟩), ("PulledJersey$Whole", 116, ⟨"PulledJersey", "bitOf", "(JI)I"⟩)]
def pj_sl : List (String × Nat × String × Nat) := [("PulledJersey$LawReader", 91, "run", 0), ("PulledJersey$LawReader", 97, "when", 1), ("PulledJersey$LawReader", 99, "or", 2), ("PulledJersey$LawReader", 101, "and", 3), ("PulledJersey$LawReader", 103, "not", 4), ("PulledJersey$LawReader", 108, "kind", 5), ("PulledJersey$LawReader", 110, "row", 6), ("PulledJersey$LawReader", 112, "column", 7), ("PulledJersey$LawReader", 114, "beside", 8), ("PulledJersey$LawReader", 116, "below", 9), ("PulledJersey$LawReader", 118, "hour", 10), ("PulledJersey$LawReader", 120, "gone", 11), ("PulledJerseyModel", 117, "when", 1), ("PulledJerseyModel", 119, "or", 2), ("PulledJerseyModel", 121, "and", 3), ("PulledJerseyModel", 123, "not", 4), ("PulledJerseyModel", 125, "run", 0), ("PulledJerseyModel", 99, "kind", 5), ("PulledJerseyModel", 105, "row", 6), ("PulledJerseyModel", 107, "column", 7), ("PulledJerseyModel", 109, "beside", 8), ("PulledJerseyModel", 111, "below", 9), ("PulledJerseyModel", 113, "hour", 10), ("PulledJerseyModel", 115, "gone", 11)]
def pj_lk : List Int32 := [3, 4, 2, 5]
def pj_stat (B : pj_B) (A : Nat → Prop) (U : State) (H : Heap) : Prop :=
  (∀ q ∈ pj_nl, va_Nw (.methodLinkNest q.1 q.2.1 q.2.2 "PulledJersey") U) ∧ va_Nw (.fieldLinkNest "PulledJersey$Fabric" 91 "PulledJersey" "LENGTH_OF_KIND" "[I" "PulledJersey") U ∧
  va_Z "PulledJersey" "LENGTH_OF_KIND" "[I" (.ref B.2.2.2.2.1) A U H ∧ va_T .int B.2.2.2.2.1 4 (fun j => .int (pj_lk.getD j 0)) A U H ∧
  va_Z "java/lang/String" "COMPACT_STRINGS" "Z" (.int 1) A U H ∧ va_Zq "jdk/internal/util/Preconditions" "SIOOBE_FORMATTER" "Ljava/util/function/BiFunction;" A U H ∧
  (∀ q ∈ pj_sl, vk_R q.1 q.2.1 q.2.2.1 (B.2.2.2.2.2.1 q.2.2.2) U) ∧ vk_S 12 pj_lenS pj_bytS B.2.2.2.2.2.1 B.2.2.2.2.2.2 A U H
theorem pj_stat.to {B : pj_B} {A A' : Nat → Prop} {s U : State} {H : Heap} {lo : List Loc} (h : pj_stat B A s s.heap) (hW : s.WarmedH U.vm) (hS : va_S A s.heap H lo) (hA : ∀ q, A' q → A q) : pj_stat B A' U H := by
  obtain ⟨h1, h2, h3, h4, h5, h6, h7, h8⟩ := h
  exact ⟨fun q hq => va_Nw.warmM hW (h1 q hq), va_Nw.warmF hW h2, ((va_Z.moved hW.alike h3).kept hS.2.1).narrow hA, ((va_T.moved hW.alike h4).kept hS.2.1).narrow hA, ((va_Z.moved hW.alike h5).kept hS.2.1).narrow hA,
    ((va_Zq.moved hW.alike h6).kept hS.2.1).narrow hA, fun q hq => vk_R.warm hW (h7 q hq), ((vk_S.moved hW.alike h8).kept hS.2.1).narrow hA⟩
theorem pj_stat.same {B : pj_B} {A : Nat → Prop} {u U : State} {H : Heap} (h : pj_stat B A u H) (hv : U.vm = u.vm) : pj_stat B A U H := by
  obtain ⟨h1, h2, h3, h4, h5, h6, h7, h8⟩ := h
  have ha : u.vm.Alike U.vm := by rw [hv]; exact Vm.Alike.refl u.vm
  exact ⟨fun q hq => va_Nw.same rfl hv.symm (h1 q hq), va_Nw.same rfl hv.symm h2, va_Z.moved ha h3, va_T.moved ha h4, va_Z.moved ha h5, va_Zq.moved ha h6, fun q hq => vk_R.same hv (h7 q hq), vk_S.moved ha h8⟩
abbrev pj_ty (B : pj_B) : List (ClassId × FieldType) := [(B.2.2.1.1, .int), (B.2.2.1.2.1, .long), (B.2.2.1.2.2, .byte)]
def pj_T (B : pj_B) (A : Nat → Prop) (U : State) : Prop := va_K B.1 vwCl (pj_ty B) U ∧ pj_stat B A U U.heap
/-! the machine at a method, as one tuple; what is fixed in it; what holds of the heap -/
abbrev pj_K : Type := Program × Launch × Env × Room × State × MethodId × Array Value × List Frame × Method × Code × Nat × Nat × (State → Prop)
def pj_W (K : pj_K) (H : Heap) (lo : List Loc) (pc : Nat) (ls : Array Slot) (st : List Value) : Prop := W K.1 K.2.1 K.2.2.1 K.2.2.2.1 K.2.2.2.2.1 K.2.2.2.2.2.1 K.2.2.2.2.2.2.1 K.2.2.2.2.2.2.2.1 K.2.2.2.2.2.2.2.2.1 K.2.2.2.2.2.2.2.2.2.1 H lo K.2.2.2.2.2.2.2.2.2.2.1 K.2.2.2.2.2.2.2.2.2.2.2.1 K.2.2.2.2.2.2.2.2.2.2.2.2 (F0 K.2.2.2.2.2.1 pc ls st)
def pj_C (B : pj_B) (A : Nat → Prop) (K : pj_K) (cc : ByteArray) (nL : Nat) (own : String) (lv : Nat) : Prop :=
  K.1.tables.exec = Jvm.exec ∧ K.2.2.2.2.2.2.2.2.2.1.code = cc ∧ K.2.2.2.2.2.2.2.2.2.1.maxLocals = nL ∧ K.2.2.2.2.1.vm.findClass own = some K.2.2.2.2.2.1.cls ∧ (∀ w ∈ pj_tbl, w.before K.2.2.2.2.2.2.1 K.2.2.2.2.1 = true) ∧ pj_T B A K.2.2.2.2.1 ∧ pj_apart B ∧
  (∀ k, k < B.2.2.2.1.length → A (B.2.1 k)) ∧ (∀ q, K.2.2.2.2.1.heap.size ≤ q → A q) ∧ (K.2.2.2.2.2.2.2.2.2.2.1 ≤ K.2.2.2.1.cells ∧ K.2.2.2.2.2.2.2.2.2.2.2.1 ≤ K.2.2.2.1.slots) ∧ lv ≤ K.2.2.2.1.frames ∧ 64 * lv ≤ K.2.2.2.1.locals
def pj_P (B : pj_B) (A : Nat → Prop) (K : pj_K) (z : pj_S) (H : Heap) (lo : List Loc) : Prop := va_P B.1 vwCl (pj_w B z) H ∧ va_S A K.2.2.2.2.1.heap H lo
theorem pj_C.D {B : pj_B} {A : Nat → Prop} {K : pj_K} {cc : ByteArray} {nL : Nat} {own : String} {lvl : Nat} (C : pj_C B A K cc nL own lvl) (z : pj_S) : va_D A (pj_w B z) := pj_wD C.2.2.2.2.2.2.1 C.2.2.2.2.2.2.2.1 z
/-- an instruction, its length, what stands behind it -/
def pj_d (cc : ByteArray) (pc : Nat) (i : Instr) (n q : Nat) : Prop := decode cc pc = .ok (i, n) ∧ pc + n = q
def pj_dj (cc : ByteArray) (pc : Nat) (i : Instr) (off : Int) (q t : Nat) : Prop := decode cc pc = .ok (i, 3) ∧ pc + 3 = q ∧ (pc : Int) + off = (t : Int)
/-! words of functions: a value that is named, a guard, a call, loops with their fuel -/
def pj_b {α β : Type} (a : α) (f : α → β) : β := f a
theorem pj_bE {α β : Type} {a x : α} {f : α → Option β} {r : β} (h : pj_b a f = some r) (e : x = a) : f x = some r := by subst e; exact h
def pj_g {β : Type} (c : Bool) (x : Option β) : Option β := if c = true then x else none
theorem pj_gE {β : Type} {c : Bool} {x : Option β} {r : β} (h : pj_g c x = some r) : c = true ∧ x = some r := by
  unfold pj_g at h
  by_cases hc : c = true
  · rw [if_pos hc] at h; exact ⟨hc, h⟩
  · rw [if_neg hc] at h; cases h
def pj_c {α β : Type} (x : Option (α × pj_S)) (f : α → pj_S → Option β) : Option β := match x with
  | none => none
  | some (a, z) => f a z
theorem pj_cE {α β : Type} {x : Option (α × pj_S)} {f : α → pj_S → Option β} {r : β} (h : pj_c x f = some r) : ∃ a z, x = some (a, z) ∧ f a z = some r := by
  match x, h with
  | some (a, z), h => exact ⟨a, z, rfl, h⟩
theorem pj_it {α : Type} {c : Prop} {d : Decidable c} {x y r : α} (hc : c) (h : @ite α c d x y = r) : x = r := by rw [if_pos hc] at h; exact h
theorem pj_if {α : Type} {c : Prop} {d : Decidable c} {x y r : α} (hc : ¬ c) (h : @ite α c d x y = r) : y = r := by rw [if_neg hc] at h; exact h
theorem pj_in_ {α : Type} {c : Prop} {d : Decidable (¬ c)} {x y r : α} (hc : c) (h : @ite α (¬ c) d x y = r) : y = r := by rw [if_neg (fun z => z hc)] at h; exact h
def pj_in (i : Int32) (n : Nat) : Bool := decide (¬ (i < 0 ∨ n ≤ i.toNatClampNeg))
theorem pj_inE {i : Int32} {n : Nat} (h : pj_in i n = true) : vp_in i n := of_decide_eq_true (p := ¬ (i < 0 ∨ n ≤ i.toNatClampNeg)) h
def pj_nz (i : Int32) : Bool := decide (¬ i = 0)
theorem pj_nzE {i : Int32} (h : pj_nz i = true) : ¬ i = 0 := of_decide_eq_true h
def pj_bo (i : Int32) : Bool := decide (i = 0 ∨ i = 1)
theorem pj_boE {i : Int32} (h : pj_bo i = true) : i = 0 ∨ i = 1 := of_decide_eq_true h
theorem pj_boN {i : Int32} (h : pj_bo i = true) : narrow .boolean (.int i) = .int i := by
  rcases pj_boE h with rfl | rfl <;> rfl
theorem pj_boF {i : Int32} (h : pj_bo i = true) : fits .boolean (.int i) = true := by
  rcases pj_boE h with rfl | rfl <;> rfl
def pj_ushr (x y : Int32) : Int32 := (x.toUInt32 >>> (y.toUInt32 &&& Int32.toUInt32 31)).toInt32
def pj_ushrL (x : Int64) (y : Int32) : Int64 := (x.toUInt64 >>> (y.toInt64.toUInt64 &&& Int64.toUInt64 63)).toInt64
def pj_shlL (x : Int64) (y : Int32) : Int64 := x <<< (y.toInt64 &&& 63)
def pj_rem (x y : Int32) : Int32 := x - x / y * y
def pj_min (x y : Int32) : Int32 := if y < x then y else x
def pj_max (x y : Int32) : Int32 := if x < y then y else x
def pj_rm (n : Nat) : Room := { frames := n, cells := 0, slots := 0, locals := 64 * n }
abbrev pj_ws (y : MethodName) (c : ByteArray) (n : Nat) (r : Option FieldType) : List Cond := Cond.code y c n r :: pj_tbl
def pj_lp0 {ρ : Type} (F : (pj_S → Option ρ) → pj_S → Option ρ) : Nat → pj_S → Option ρ
  | 0, _ => none
  | n + 1, z => F (pj_lp0 F n)  z
def pj_lp1 {α0 ρ : Type} (F : (α0 → pj_S → Option ρ) → α0 → pj_S → Option ρ) : Nat → α0 → pj_S → Option ρ
  | 0, _, _ => none
  | n + 1, a0, z => F (pj_lp1 F n) a0 z
def pj_lp2 {α0 α1 ρ : Type} (F : (α0 → α1 → pj_S → Option ρ) → α0 → α1 → pj_S → Option ρ) : Nat → α0 → α1 → pj_S → Option ρ
  | 0, _, _, _ => none
  | n + 1, a0, a1, z => F (pj_lp2 F n) a0 a1 z
def pj_lp3 {α0 α1 α2 ρ : Type} (F : (α0 → α1 → α2 → pj_S → Option ρ) → α0 → α1 → α2 → pj_S → Option ρ) : Nat → α0 → α1 → α2 → pj_S → Option ρ
  | 0, _, _, _, _ => none
  | n + 1, a0, a1, a2, z => F (pj_lp3 F n) a0 a1 a2 z
def pj_lp4 {α0 α1 α2 α3 ρ : Type} (F : (α0 → α1 → α2 → α3 → pj_S → Option ρ) → α0 → α1 → α2 → α3 → pj_S → Option ρ) : Nat → α0 → α1 → α2 → α3 → pj_S → Option ρ
  | 0, _, _, _, _, _ => none
  | n + 1, a0, a1, a2, a3, z => F (pj_lp4 F n) a0 a1 a2 a3 z
def pj_lp5 {α0 α1 α2 α3 α4 ρ : Type} (F : (α0 → α1 → α2 → α3 → α4 → pj_S → Option ρ) → α0 → α1 → α2 → α3 → α4 → pj_S → Option ρ) : Nat → α0 → α1 → α2 → α3 → α4 → pj_S → Option ρ
  | 0, _, _, _, _, _, _ => none
  | n + 1, a0, a1, a2, a3, a4, z => F (pj_lp5 F n) a0 a1 a2 a3 a4 z
def pj_lp6 {α0 α1 α2 α3 α4 α5 ρ : Type} (F : (α0 → α1 → α2 → α3 → α4 → α5 → pj_S → Option ρ) → α0 → α1 → α2 → α3 → α4 → α5 → pj_S → Option ρ) : Nat → α0 → α1 → α2 → α3 → α4 → α5 → pj_S → Option ρ
  | 0, _, _, _, _, _, _, _ => none
  | n + 1, a0, a1, a2, a3, a4, a5, z => F (pj_lp6 F n) a0 a1 a2 a3 a4 a5 z
def pj_lp7 {α0 α1 α2 α3 α4 α5 α6 ρ : Type} (F : (α0 → α1 → α2 → α3 → α4 → α5 → α6 → pj_S → Option ρ) → α0 → α1 → α2 → α3 → α4 → α5 → α6 → pj_S → Option ρ) : Nat → α0 → α1 → α2 → α3 → α4 → α5 → α6 → pj_S → Option ρ
  | 0, _, _, _, _, _, _, _, _ => none
  | n + 1, a0, a1, a2, a3, a4, a5, a6, z => F (pj_lp7 F n) a0 a1 a2 a3 a4 a5 a6 z
def pj_lp8 {α0 α1 α2 α3 α4 α5 α6 α7 ρ : Type} (F : (α0 → α1 → α2 → α3 → α4 → α5 → α6 → α7 → pj_S → Option ρ) → α0 → α1 → α2 → α3 → α4 → α5 → α6 → α7 → pj_S → Option ρ) : Nat → α0 → α1 → α2 → α3 → α4 → α5 → α6 → α7 → pj_S → Option ρ
  | 0, _, _, _, _, _, _, _, _, _ => none
  | n + 1, a0, a1, a2, a3, a4, a5, a6, a7, z => F (pj_lp8 F n) a0 a1 a2 a3 a4 a5 a6 a7 z
def pj_lp9 {α0 α1 α2 α3 α4 α5 α6 α7 α8 ρ : Type} (F : (α0 → α1 → α2 → α3 → α4 → α5 → α6 → α7 → α8 → pj_S → Option ρ) → α0 → α1 → α2 → α3 → α4 → α5 → α6 → α7 → α8 → pj_S → Option ρ) : Nat → α0 → α1 → α2 → α3 → α4 → α5 → α6 → α7 → α8 → pj_S → Option ρ
  | 0, _, _, _, _, _, _, _, _, _, _ => none
  | n + 1, a0, a1, a2, a3, a4, a5, a6, a7, a8, z => F (pj_lp9 F n) a0 a1 a2 a3 a4 a5 a6 a7 a8 z
def pj_lp10 {α0 α1 α2 α3 α4 α5 α6 α7 α8 α9 ρ : Type} (F : (α0 → α1 → α2 → α3 → α4 → α5 → α6 → α7 → α8 → α9 → pj_S → Option ρ) → α0 → α1 → α2 → α3 → α4 → α5 → α6 → α7 → α8 → α9 → pj_S → Option ρ) : Nat → α0 → α1 → α2 → α3 → α4 → α5 → α6 → α7 → α8 → α9 → pj_S → Option ρ
  | 0, _, _, _, _, _, _, _, _, _, _, _ => none
  | n + 1, a0, a1, a2, a3, a4, a5, a6, a7, a8, a9, z => F (pj_lp10 F n) a0 a1 a2 a3 a4 a5 a6 a7 a8 a9 z
def pj_lp11 {α0 α1 α2 α3 α4 α5 α6 α7 α8 α9 α10 ρ : Type} (F : (α0 → α1 → α2 → α3 → α4 → α5 → α6 → α7 → α8 → α9 → α10 → pj_S → Option ρ) → α0 → α1 → α2 → α3 → α4 → α5 → α6 → α7 → α8 → α9 → α10 → pj_S → Option ρ) : Nat → α0 → α1 → α2 → α3 → α4 → α5 → α6 → α7 → α8 → α9 → α10 → pj_S → Option ρ
  | 0, _, _, _, _, _, _, _, _, _, _, _, _ => none
  | n + 1, a0, a1, a2, a3, a4, a5, a6, a7, a8, a9, a10, z => F (pj_lp11 F n) a0 a1 a2 a3 a4 a5 a6 a7 a8 a9 a10 z
def pj_lp12 {α0 α1 α2 α3 α4 α5 α6 α7 α8 α9 α10 α11 ρ : Type} (F : (α0 → α1 → α2 → α3 → α4 → α5 → α6 → α7 → α8 → α9 → α10 → α11 → pj_S → Option ρ) → α0 → α1 → α2 → α3 → α4 → α5 → α6 → α7 → α8 → α9 → α10 → α11 → pj_S → Option ρ) : Nat → α0 → α1 → α2 → α3 → α4 → α5 → α6 → α7 → α8 → α9 → α10 → α11 → pj_S → Option ρ
  | 0, _, _, _, _, _, _, _, _, _, _, _, _, _ => none
  | n + 1, a0, a1, a2, a3, a4, a5, a6, a7, a8, a9, a10, a11, z => F (pj_lp12 F n) a0 a1 a2 a3 a4 a5 a6 a7 a8 a9 a10 a11 z
end
section
theorem pj_iconst {B : pj_B} {A : Nat → Prop} {K : pj_K} {cc : ByteArray} {nL : Nat} {own : String} {lvl : Nat} {H : Heap} {lo : List Loc} {ls : Array Slot} {st : List Value} {pc q : Nat} {n : Int} {v : Int32} (C : pj_C B A K cc nL own lvl) (d : pj_d cc pc (.iconst n) 1 q) (hv : Int32.ofInt n = v) (k : pj_W K H lo q ls (.int v :: st)) : pj_W K H lo pc ls (st) := by
  obtain ⟨d, rfl⟩ := d
  exact lv_iconst C.1 C.2.1 d hv k
theorem pj_bipush {B : pj_B} {A : Nat → Prop} {K : pj_K} {cc : ByteArray} {nL : Nat} {own : String} {lvl : Nat} {H : Heap} {lo : List Loc} {ls : Array Slot} {st : List Value} {pc q : Nat} {n : Int} {v : Int32} (C : pj_C B A K cc nL own lvl) (d : pj_d cc pc (.bipush n) 2 q) (hv : (Int8.ofInt n).toInt32 = v) (k : pj_W K H lo q ls (.int v :: st)) : pj_W K H lo pc ls (st) := by
  obtain ⟨d, rfl⟩ := d
  exact lv_bipush C.1 C.2.1 d hv k
theorem pj_sipush {B : pj_B} {A : Nat → Prop} {K : pj_K} {cc : ByteArray} {nL : Nat} {own : String} {lvl : Nat} {H : Heap} {lo : List Loc} {ls : Array Slot} {st : List Value} {pc q : Nat} {n : Int} {v : Int32} (C : pj_C B A K cc nL own lvl) (d : pj_d cc pc (.sipush n) 3 q) (hv : (Int16.ofInt n).toInt32 = v) (k : pj_W K H lo q ls (.int v :: st)) : pj_W K H lo pc ls (st) := by
  obtain ⟨d, rfl⟩ := d
  exact lv_sipush C.1 C.2.1 d hv k
theorem pj_lconst {B : pj_B} {A : Nat → Prop} {K : pj_K} {cc : ByteArray} {nL : Nat} {own : String} {lvl : Nat} {H : Heap} {lo : List Loc} {ls : Array Slot} {st : List Value} {pc q : Nat} {n : Fin 2} {v : Int64} (C : pj_C B A K cc nL own lvl) (d : pj_d cc pc (.lconst n) 1 q) (hv : Int64.ofNat (n : Nat) = v) (k : pj_W K H lo q ls (.long v :: st)) : pj_W K H lo pc ls (st) := by
  obtain ⟨d, rfl⟩ := d
  exact lv_lconst C.1 C.2.1 d hv k
theorem pj_iload_n {B : pj_B} {A : Nat → Prop} {K : pj_K} {cc : ByteArray} {nL : Nat} {own : String} {lvl : Nat} {H : Heap} {lo : List Loc} {ls : Array Slot} {st : List Value} {pc q : Nat} {k0 : Fin 4} {i : Nat} {x : Int32} {lv : List (Nat × Value)} (C : pj_C B A K cc nL own lvl) (d : pj_d cc pc (.iload_n k0) 1 q) (hi : (k0 : Nat) = i) (hl : lv_has ls nL lv) (j : Nat) (hj : lv[j]? = some (i, .int x)) (k : pj_W K H lo q ls (.int x :: st)) : pj_W K H lo pc ls (st) := by
  obtain ⟨d, rfl⟩ := d
  exact lv_iload_n C.1 C.2.1 d hi (lv_at hl j hj) k
theorem pj_iload {B : pj_B} {A : Nat → Prop} {K : pj_K} {cc : ByteArray} {nL : Nat} {own : String} {lvl : Nat} {H : Heap} {lo : List Loc} {ls : Array Slot} {st : List Value} {pc q : Nat} {i : Nat} {x : Int32} {lv : List (Nat × Value)} (C : pj_C B A K cc nL own lvl) (d : pj_d cc pc (.iload i) 2 q) (hl : lv_has ls nL lv) (j : Nat) (hj : lv[j]? = some (i, .int x)) (k : pj_W K H lo q ls (.int x :: st)) : pj_W K H lo pc ls (st) := by
  obtain ⟨d, rfl⟩ := d
  exact lv_iload C.1 C.2.1 d (lv_at hl j hj) k
theorem pj_istore_n {B : pj_B} {A : Nat → Prop} {K : pj_K} {cc : ByteArray} {nL : Nat} {own : String} {lvl : Nat} {H : Heap} {lo : List Loc} {ls : Array Slot} {st : List Value} {pc q : Nat} {k0 : Fin 4} {i : Nat} {x : Int32} {lv : List (Nat × Value)} (lv2 : List (Nat × Value)) (C : pj_C B A K cc nL own lvl) (d : pj_d cc pc (.istore_n k0) 1 q) (hi : (k0 : Nat) = i) (hl : lv_has ls nL lv) (hn : i < nL) (hl2 : (i, Value.int x) :: lv.filter (fun q => !(q.1 == i) && !(q.1 + 1 == i && q.2.category == 2)) = lv2) (k : ∀ ls2 : Array Slot, lv_has ls2 nL lv2 → pj_W K H lo q ls2 st) : pj_W K H lo pc ls (.int x :: st) := by
  obtain ⟨d, rfl⟩ := d
  exact lv_istore_n C.1 C.2.1 d hi hl hn hl2 k
theorem pj_istore {B : pj_B} {A : Nat → Prop} {K : pj_K} {cc : ByteArray} {nL : Nat} {own : String} {lvl : Nat} {H : Heap} {lo : List Loc} {ls : Array Slot} {st : List Value} {pc q : Nat} {i : Nat} {x : Int32} {lv : List (Nat × Value)} (lv2 : List (Nat × Value)) (C : pj_C B A K cc nL own lvl) (d : pj_d cc pc (.istore i) 2 q) (hl : lv_has ls nL lv) (hn : i < nL) (hl2 : (i, Value.int x) :: lv.filter (fun q => !(q.1 == i) && !(q.1 + 1 == i && q.2.category == 2)) = lv2) (k : ∀ ls2 : Array Slot, lv_has ls2 nL lv2 → pj_W K H lo q ls2 st) : pj_W K H lo pc ls (.int x :: st) := by
  obtain ⟨d, rfl⟩ := d
  exact lv_istore C.1 C.2.1 d hl hn hl2 k
theorem pj_lload_n {B : pj_B} {A : Nat → Prop} {K : pj_K} {cc : ByteArray} {nL : Nat} {own : String} {lvl : Nat} {H : Heap} {lo : List Loc} {ls : Array Slot} {st : List Value} {pc q : Nat} {k0 : Fin 4} {i : Nat} {x : Int64} {lv : List (Nat × Value)} (C : pj_C B A K cc nL own lvl) (d : pj_d cc pc (.lload_n k0) 1 q) (hi : (k0 : Nat) = i) (hl : lv_has ls nL lv) (j : Nat) (hj : lv[j]? = some (i, .long x)) (k : pj_W K H lo q ls (.long x :: st)) : pj_W K H lo pc ls (st) := by
  obtain ⟨d, rfl⟩ := d
  exact lv_lload_n C.1 C.2.1 d hi (lv_at hl j hj) k
theorem pj_lload {B : pj_B} {A : Nat → Prop} {K : pj_K} {cc : ByteArray} {nL : Nat} {own : String} {lvl : Nat} {H : Heap} {lo : List Loc} {ls : Array Slot} {st : List Value} {pc q : Nat} {i : Nat} {x : Int64} {lv : List (Nat × Value)} (C : pj_C B A K cc nL own lvl) (d : pj_d cc pc (.lload i) 2 q) (hl : lv_has ls nL lv) (j : Nat) (hj : lv[j]? = some (i, .long x)) (k : pj_W K H lo q ls (.long x :: st)) : pj_W K H lo pc ls (st) := by
  obtain ⟨d, rfl⟩ := d
  exact lv_lload C.1 C.2.1 d (lv_at hl j hj) k
theorem pj_lstore_n {B : pj_B} {A : Nat → Prop} {K : pj_K} {cc : ByteArray} {nL : Nat} {own : String} {lvl : Nat} {H : Heap} {lo : List Loc} {ls : Array Slot} {st : List Value} {pc q : Nat} {k0 : Fin 4} {i : Nat} {x : Int64} {lv : List (Nat × Value)} (lv2 : List (Nat × Value)) (C : pj_C B A K cc nL own lvl) (d : pj_d cc pc (.lstore_n k0) 1 q) (hi : (k0 : Nat) = i) (hl : lv_has ls nL lv) (hn : i + 1 < nL) (hl2 : (i, Value.long x) :: lv.filter (fun q => !(q.1 == i) && (!(q.1 == i + 1) && !(q.1 + 1 == i && q.2.category == 2))) = lv2) (k : ∀ ls2 : Array Slot, lv_has ls2 nL lv2 → pj_W K H lo q ls2 st) : pj_W K H lo pc ls (.long x :: st) := by
  obtain ⟨d, rfl⟩ := d
  exact lv_lstore_n C.1 C.2.1 d hi hl hn hl2 k
theorem pj_lstore {B : pj_B} {A : Nat → Prop} {K : pj_K} {cc : ByteArray} {nL : Nat} {own : String} {lvl : Nat} {H : Heap} {lo : List Loc} {ls : Array Slot} {st : List Value} {pc q : Nat} {i : Nat} {x : Int64} {lv : List (Nat × Value)} (lv2 : List (Nat × Value)) (C : pj_C B A K cc nL own lvl) (d : pj_d cc pc (.lstore i) 2 q) (hl : lv_has ls nL lv) (hn : i + 1 < nL) (hl2 : (i, Value.long x) :: lv.filter (fun q => !(q.1 == i) && (!(q.1 == i + 1) && !(q.1 + 1 == i && q.2.category == 2))) = lv2) (k : ∀ ls2 : Array Slot, lv_has ls2 nL lv2 → pj_W K H lo q ls2 st) : pj_W K H lo pc ls (.long x :: st) := by
  obtain ⟨d, rfl⟩ := d
  exact lv_lstore C.1 C.2.1 d hl hn hl2 k
theorem pj_aload_n {B : pj_B} {A : Nat → Prop} {K : pj_K} {cc : ByteArray} {nL : Nat} {own : String} {lvl : Nat} {H : Heap} {lo : List Loc} {ls : Array Slot} {st : List Value} {pc q : Nat} {k0 : Fin 4} {i : Nat} {x : Nat} {lv : List (Nat × Value)} (C : pj_C B A K cc nL own lvl) (d : pj_d cc pc (.aload_n k0) 1 q) (hi : (k0 : Nat) = i) (hl : lv_has ls nL lv) (j : Nat) (hj : lv[j]? = some (i, .ref x)) (k : pj_W K H lo q ls (.ref x :: st)) : pj_W K H lo pc ls (st) := by
  obtain ⟨d, rfl⟩ := d
  exact lv_aload_n C.1 C.2.1 d hi (lv_at hl j hj) k
theorem pj_aload {B : pj_B} {A : Nat → Prop} {K : pj_K} {cc : ByteArray} {nL : Nat} {own : String} {lvl : Nat} {H : Heap} {lo : List Loc} {ls : Array Slot} {st : List Value} {pc q : Nat} {i : Nat} {x : Nat} {lv : List (Nat × Value)} (C : pj_C B A K cc nL own lvl) (d : pj_d cc pc (.aload i) 2 q) (hl : lv_has ls nL lv) (j : Nat) (hj : lv[j]? = some (i, .ref x)) (k : pj_W K H lo q ls (.ref x :: st)) : pj_W K H lo pc ls (st) := by
  obtain ⟨d, rfl⟩ := d
  exact lv_aload C.1 C.2.1 d (lv_at hl j hj) k
theorem pj_astore_n {B : pj_B} {A : Nat → Prop} {K : pj_K} {cc : ByteArray} {nL : Nat} {own : String} {lvl : Nat} {H : Heap} {lo : List Loc} {ls : Array Slot} {st : List Value} {pc q : Nat} {k0 : Fin 4} {i : Nat} {x : Nat} {lv : List (Nat × Value)} (lv2 : List (Nat × Value)) (C : pj_C B A K cc nL own lvl) (d : pj_d cc pc (.astore_n k0) 1 q) (hi : (k0 : Nat) = i) (hl : lv_has ls nL lv) (hn : i < nL) (hl2 : (i, Value.ref x) :: lv.filter (fun q => !(q.1 == i) && !(q.1 + 1 == i && q.2.category == 2)) = lv2) (k : ∀ ls2 : Array Slot, lv_has ls2 nL lv2 → pj_W K H lo q ls2 st) : pj_W K H lo pc ls (.ref x :: st) := by
  obtain ⟨d, rfl⟩ := d
  exact lv_astore_n C.1 C.2.1 d hi hl hn hl2 k
theorem pj_astore {B : pj_B} {A : Nat → Prop} {K : pj_K} {cc : ByteArray} {nL : Nat} {own : String} {lvl : Nat} {H : Heap} {lo : List Loc} {ls : Array Slot} {st : List Value} {pc q : Nat} {i : Nat} {x : Nat} {lv : List (Nat × Value)} (lv2 : List (Nat × Value)) (C : pj_C B A K cc nL own lvl) (d : pj_d cc pc (.astore i) 2 q) (hl : lv_has ls nL lv) (hn : i < nL) (hl2 : (i, Value.ref x) :: lv.filter (fun q => !(q.1 == i) && !(q.1 + 1 == i && q.2.category == 2)) = lv2) (k : ∀ ls2 : Array Slot, lv_has ls2 nL lv2 → pj_W K H lo q ls2 st) : pj_W K H lo pc ls (.ref x :: st) := by
  obtain ⟨d, rfl⟩ := d
  exact lv_astore C.1 C.2.1 d hl hn hl2 k
theorem pj_iinc {B : pj_B} {A : Nat → Prop} {K : pj_K} {cc : ByteArray} {nL : Nat} {own : String} {lvl : Nat} {H : Heap} {lo : List Loc} {ls : Array Slot} {st : List Value} {pc q : Nat} {i : Nat} {n : Int} {x v : Int32} {lv : List (Nat × Value)} (lv2 : List (Nat × Value)) (C : pj_C B A K cc nL own lvl) (d : pj_d cc pc (.iinc i n) 3 q) (hl : lv_has ls nL lv) (j : Nat) (hj : lv[j]? = some (i, .int x)) (hv : v = x + Int32.ofInt n) (hn : i < nL) (hl2 : (i, Value.int v) :: lv.filter (fun q => !(q.1 == i) && !(q.1 + 1 == i && q.2.category == 2)) = lv2) (k : ∀ ls2 : Array Slot, lv_has ls2 nL lv2 → pj_W K H lo q ls2 st) : pj_W K H lo pc ls st := by
  obtain ⟨d, rfl⟩ := d
  exact lv_iinc C.1 C.2.1 d hl hj hv.symm hn hl2 k
theorem pj_iadd {B : pj_B} {A : Nat → Prop} {K : pj_K} {cc : ByteArray} {nL : Nat} {own : String} {lvl : Nat} {H : Heap} {lo : List Loc} {ls : Array Slot} {st : List Value} {pc q : Nat} {x y : Int32} (C : pj_C B A K cc nL own lvl) (d : pj_d cc pc (.iadd) 1 q) (k : pj_W K H lo q ls (.int (x + y) :: st)) : pj_W K H lo pc ls (.int y :: .int x :: st) := by
  obtain ⟨d, rfl⟩ := d
  exact lv_iadd C.1 C.2.1 d k
theorem pj_isub {B : pj_B} {A : Nat → Prop} {K : pj_K} {cc : ByteArray} {nL : Nat} {own : String} {lvl : Nat} {H : Heap} {lo : List Loc} {ls : Array Slot} {st : List Value} {pc q : Nat} {x y : Int32} (C : pj_C B A K cc nL own lvl) (d : pj_d cc pc (.isub) 1 q) (k : pj_W K H lo q ls (.int (x - y) :: st)) : pj_W K H lo pc ls (.int y :: .int x :: st) := by
  obtain ⟨d, rfl⟩ := d
  exact lv_isub C.1 C.2.1 d k
theorem pj_imul {B : pj_B} {A : Nat → Prop} {K : pj_K} {cc : ByteArray} {nL : Nat} {own : String} {lvl : Nat} {H : Heap} {lo : List Loc} {ls : Array Slot} {st : List Value} {pc q : Nat} {x y : Int32} (C : pj_C B A K cc nL own lvl) (d : pj_d cc pc (.imul) 1 q) (k : pj_W K H lo q ls (.int (x * y) :: st)) : pj_W K H lo pc ls (.int y :: .int x :: st) := by
  obtain ⟨d, rfl⟩ := d
  exact lv_imul C.1 C.2.1 d k
theorem pj_iand {B : pj_B} {A : Nat → Prop} {K : pj_K} {cc : ByteArray} {nL : Nat} {own : String} {lvl : Nat} {H : Heap} {lo : List Loc} {ls : Array Slot} {st : List Value} {pc q : Nat} {x y : Int32} (C : pj_C B A K cc nL own lvl) (d : pj_d cc pc (.iand) 1 q) (k : pj_W K H lo q ls (.int (x &&& y) :: st)) : pj_W K H lo pc ls (.int y :: .int x :: st) := by
  obtain ⟨d, rfl⟩ := d
  exact lv_iand C.1 C.2.1 d k
theorem pj_ior {B : pj_B} {A : Nat → Prop} {K : pj_K} {cc : ByteArray} {nL : Nat} {own : String} {lvl : Nat} {H : Heap} {lo : List Loc} {ls : Array Slot} {st : List Value} {pc q : Nat} {x y : Int32} (C : pj_C B A K cc nL own lvl) (d : pj_d cc pc (.ior) 1 q) (k : pj_W K H lo q ls (.int (x ||| y) :: st)) : pj_W K H lo pc ls (.int y :: .int x :: st) := by
  obtain ⟨d, rfl⟩ := d
  exact lv_ior C.1 C.2.1 d k
theorem pj_ixor {B : pj_B} {A : Nat → Prop} {K : pj_K} {cc : ByteArray} {nL : Nat} {own : String} {lvl : Nat} {H : Heap} {lo : List Loc} {ls : Array Slot} {st : List Value} {pc q : Nat} {x y : Int32} (C : pj_C B A K cc nL own lvl) (d : pj_d cc pc (.ixor) 1 q) (k : pj_W K H lo q ls (.int (x ^^^ y) :: st)) : pj_W K H lo pc ls (.int y :: .int x :: st) := by
  obtain ⟨d, rfl⟩ := d
  exact lv_ixor C.1 C.2.1 d k
theorem pj_ishl {B : pj_B} {A : Nat → Prop} {K : pj_K} {cc : ByteArray} {nL : Nat} {own : String} {lvl : Nat} {H : Heap} {lo : List Loc} {ls : Array Slot} {st : List Value} {pc q : Nat} {x y : Int32} (C : pj_C B A K cc nL own lvl) (d : pj_d cc pc (.ishl) 1 q) (k : pj_W K H lo q ls (.int (x <<< (y &&& 31)) :: st)) : pj_W K H lo pc ls (.int y :: .int x :: st) := by
  obtain ⟨d, rfl⟩ := d
  exact lv_ishl C.1 C.2.1 d k
theorem pj_ishr {B : pj_B} {A : Nat → Prop} {K : pj_K} {cc : ByteArray} {nL : Nat} {own : String} {lvl : Nat} {H : Heap} {lo : List Loc} {ls : Array Slot} {st : List Value} {pc q : Nat} {x y : Int32} (C : pj_C B A K cc nL own lvl) (d : pj_d cc pc (.ishr) 1 q) (k : pj_W K H lo q ls (.int (x >>> (y &&& 31)) :: st)) : pj_W K H lo pc ls (.int y :: .int x :: st) := by
  obtain ⟨d, rfl⟩ := d
  exact lv_ishr C.1 C.2.1 d k
theorem pj_iushr {B : pj_B} {A : Nat → Prop} {K : pj_K} {cc : ByteArray} {nL : Nat} {own : String} {lvl : Nat} {H : Heap} {lo : List Loc} {ls : Array Slot} {st : List Value} {pc q : Nat} {x y : Int32} (C : pj_C B A K cc nL own lvl) (d : pj_d cc pc (.iushr) 1 q) (k : pj_W K H lo q ls (.int (pj_ushr x y) :: st)) : pj_W K H lo pc ls (.int y :: .int x :: st) := by
  obtain ⟨d, rfl⟩ := d
  exact lv_iushr C.1 C.2.1 d rfl k
theorem pj_idiv {B : pj_B} {A : Nat → Prop} {K : pj_K} {cc : ByteArray} {nL : Nat} {own : String} {lvl : Nat} {H : Heap} {lo : List Loc} {ls : Array Slot} {st : List Value} {pc q : Nat} {x y : Int32} (C : pj_C B A K cc nL own lvl) (d : pj_d cc pc (.idiv) 1 q) (hz : pj_nz y = true) (k : pj_W K H lo q ls (.int (x / y) :: st)) : pj_W K H lo pc ls (.int y :: .int x :: st) := by
  obtain ⟨d, rfl⟩ := d
  exact lv_idiv C.1 C.2.1 d (pj_nzE hz) k
theorem pj_irem {B : pj_B} {A : Nat → Prop} {K : pj_K} {cc : ByteArray} {nL : Nat} {own : String} {lvl : Nat} {H : Heap} {lo : List Loc} {ls : Array Slot} {st : List Value} {pc q : Nat} {x y : Int32} (C : pj_C B A K cc nL own lvl) (d : pj_d cc pc (.irem) 1 q) (hz : pj_nz y = true) (k : pj_W K H lo q ls (.int (pj_rem x y) :: st)) : pj_W K H lo pc ls (.int y :: .int x :: st) := by
  obtain ⟨d, rfl⟩ := d
  exact lv_irem C.1 C.2.1 d (pj_nzE hz) k
theorem pj_ladd {B : pj_B} {A : Nat → Prop} {K : pj_K} {cc : ByteArray} {nL : Nat} {own : String} {lvl : Nat} {H : Heap} {lo : List Loc} {ls : Array Slot} {st : List Value} {pc q : Nat} {x y : Int64} (C : pj_C B A K cc nL own lvl) (d : pj_d cc pc (.ladd) 1 q) (k : pj_W K H lo q ls (.long (x + y) :: st)) : pj_W K H lo pc ls (.long y :: .long x :: st) := by
  obtain ⟨d, rfl⟩ := d
  exact lv_ladd C.1 C.2.1 d k
theorem pj_lsub {B : pj_B} {A : Nat → Prop} {K : pj_K} {cc : ByteArray} {nL : Nat} {own : String} {lvl : Nat} {H : Heap} {lo : List Loc} {ls : Array Slot} {st : List Value} {pc q : Nat} {x y : Int64} (C : pj_C B A K cc nL own lvl) (d : pj_d cc pc (.lsub) 1 q) (k : pj_W K H lo q ls (.long (x - y) :: st)) : pj_W K H lo pc ls (.long y :: .long x :: st) := by
  obtain ⟨d, rfl⟩ := d
  exact lv_lsub C.1 C.2.1 d k
theorem pj_land {B : pj_B} {A : Nat → Prop} {K : pj_K} {cc : ByteArray} {nL : Nat} {own : String} {lvl : Nat} {H : Heap} {lo : List Loc} {ls : Array Slot} {st : List Value} {pc q : Nat} {x y : Int64} (C : pj_C B A K cc nL own lvl) (d : pj_d cc pc (.land) 1 q) (k : pj_W K H lo q ls (.long (x &&& y) :: st)) : pj_W K H lo pc ls (.long y :: .long x :: st) := by
  obtain ⟨d, rfl⟩ := d
  exact lv_land C.1 C.2.1 d k
theorem pj_lor {B : pj_B} {A : Nat → Prop} {K : pj_K} {cc : ByteArray} {nL : Nat} {own : String} {lvl : Nat} {H : Heap} {lo : List Loc} {ls : Array Slot} {st : List Value} {pc q : Nat} {x y : Int64} (C : pj_C B A K cc nL own lvl) (d : pj_d cc pc (.lor) 1 q) (k : pj_W K H lo q ls (.long (x ||| y) :: st)) : pj_W K H lo pc ls (.long y :: .long x :: st) := by
  obtain ⟨d, rfl⟩ := d
  exact lv_lor C.1 C.2.1 d k
theorem pj_lxor {B : pj_B} {A : Nat → Prop} {K : pj_K} {cc : ByteArray} {nL : Nat} {own : String} {lvl : Nat} {H : Heap} {lo : List Loc} {ls : Array Slot} {st : List Value} {pc q : Nat} {x y : Int64} (C : pj_C B A K cc nL own lvl) (d : pj_d cc pc (.lxor) 1 q) (k : pj_W K H lo q ls (.long (x ^^^ y) :: st)) : pj_W K H lo pc ls (.long y :: .long x :: st) := by
  obtain ⟨d, rfl⟩ := d
  exact lv_lxor C.1 C.2.1 d k
theorem pj_lushr {B : pj_B} {A : Nat → Prop} {K : pj_K} {cc : ByteArray} {nL : Nat} {own : String} {lvl : Nat} {H : Heap} {lo : List Loc} {ls : Array Slot} {st : List Value} {pc q : Nat} {x : Int64} {y : Int32} (C : pj_C B A K cc nL own lvl) (d : pj_d cc pc (.lushr) 1 q) (k : pj_W K H lo q ls (.long (pj_ushrL x y) :: st)) : pj_W K H lo pc ls (.int y :: .long x :: st) := by
  obtain ⟨d, rfl⟩ := d
  exact lv_lushr C.1 C.2.1 d rfl k
theorem pj_lshl {B : pj_B} {A : Nat → Prop} {K : pj_K} {cc : ByteArray} {nL : Nat} {own : String} {lvl : Nat} {H : Heap} {lo : List Loc} {ls : Array Slot} {st : List Value} {pc q : Nat} {x : Int64} {y : Int32} (C : pj_C B A K cc nL own lvl) (d : pj_d cc pc (.lshl) 1 q) (k : pj_W K H lo q ls (.long (pj_shlL x y) :: st)) : pj_W K H lo pc ls (.int y :: .long x :: st) := by
  obtain ⟨d, rfl⟩ := d
  exact lv_lshl C.1 C.2.1 d rfl k
theorem pj_l2i {B : pj_B} {A : Nat → Prop} {K : pj_K} {cc : ByteArray} {nL : Nat} {own : String} {lvl : Nat} {H : Heap} {lo : List Loc} {ls : Array Slot} {st : List Value} {pc q : Nat} {x : Int64} (C : pj_C B A K cc nL own lvl) (d : pj_d cc pc (.l2i) 1 q) (k : pj_W K H lo q ls (.int x.toInt32 :: st)) : pj_W K H lo pc ls (.long x :: st) := by
  obtain ⟨d, rfl⟩ := d
  exact lv_l2i C.1 C.2.1 d rfl k
theorem pj_i2b {B : pj_B} {A : Nat → Prop} {K : pj_K} {cc : ByteArray} {nL : Nat} {own : String} {lvl : Nat} {H : Heap} {lo : List Loc} {ls : Array Slot} {st : List Value} {pc q : Nat} {x : Int32} (C : pj_C B A K cc nL own lvl) (d : pj_d cc pc (.i2b) 1 q) (k : pj_W K H lo q ls (.int x.toInt8.toInt32 :: st)) : pj_W K H lo pc ls (.int x :: st) := by
  obtain ⟨d, rfl⟩ := d
  exact lv_i2b C.1 C.2.1 d rfl k
theorem pj_i2c {B : pj_B} {A : Nat → Prop} {K : pj_K} {cc : ByteArray} {nL : Nat} {own : String} {lvl : Nat} {H : Heap} {lo : List Loc} {ls : Array Slot} {st : List Value} {pc q : Nat} {x : Int32} (C : pj_C B A K cc nL own lvl) (d : pj_d cc pc (.i2c) 1 q) (k : pj_W K H lo q ls (.int (x.toUInt32 % 65536).toInt32 :: st)) : pj_W K H lo pc ls (.int x :: st) := by
  obtain ⟨d, rfl⟩ := d
  exact lv_i2c C.1 C.2.1 d rfl k
theorem pj_lcmp {B : pj_B} {A : Nat → Prop} {K : pj_K} {cc : ByteArray} {nL : Nat} {own : String} {lvl : Nat} {H : Heap} {lo : List Loc} {ls : Array Slot} {st : List Value} {pc q : Nat} {x y : Int64} (C : pj_C B A K cc nL own lvl) (d : pj_d cc pc (.lcmp) 1 q) (k : pj_W K H lo q ls (.int (lg_cmp x y) :: st)) : pj_W K H lo pc ls (.long y :: .long x :: st) := by
  obtain ⟨d, rfl⟩ := d
  exact W.lcmp C.1 C.2.1 d k
theorem pj_dup {B : pj_B} {A : Nat → Prop} {K : pj_K} {cc : ByteArray} {nL : Nat} {own : String} {lvl : Nat} {H : Heap} {lo : List Loc} {ls : Array Slot} {st : List Value} {pc q : Nat} {va : Value} (C : pj_C B A K cc nL own lvl) (d : pj_d cc pc (.dup) 1 q) (hc : va.category = 1) (k : pj_W K H lo q ls (va :: va :: st)) : pj_W K H lo pc ls (va :: st) := by
  obtain ⟨d, rfl⟩ := d
  exact lv_dup C.1 C.2.1 d hc k
theorem pj_pop {B : pj_B} {A : Nat → Prop} {K : pj_K} {cc : ByteArray} {nL : Nat} {own : String} {lvl : Nat} {H : Heap} {lo : List Loc} {ls : Array Slot} {st : List Value} {pc q : Nat} {va : Value} (C : pj_C B A K cc nL own lvl) (d : pj_d cc pc (.pop) 1 q) (hc : va.category = 1) (k : pj_W K H lo q ls (st)) : pj_W K H lo pc ls (va :: st) := by
  obtain ⟨d, rfl⟩ := d
  exact lv_pop C.1 C.2.1 d hc k
theorem pj_dup2 {B : pj_B} {A : Nat → Prop} {K : pj_K} {cc : ByteArray} {nL : Nat} {own : String} {lvl : Nat} {H : Heap} {lo : List Loc} {ls : Array Slot} {st : List Value} {pc q : Nat} {va vb : Value} (C : pj_C B A K cc nL own lvl) (d : pj_d cc pc (.dup2) 1 q) (hc : va.category = 1) (hd : vb.category = 1) (k : pj_W K H lo q ls (va :: vb :: va :: vb :: st)) : pj_W K H lo pc ls (va :: vb :: st) := by
  obtain ⟨d, rfl⟩ := d
  exact lv_dup2_11 C.1 C.2.1 d hc hd k
theorem pj_dup2l {B : pj_B} {A : Nat → Prop} {K : pj_K} {cc : ByteArray} {nL : Nat} {own : String} {lvl : Nat} {H : Heap} {lo : List Loc} {ls : Array Slot} {st : List Value} {pc q : Nat} {va : Value} (C : pj_C B A K cc nL own lvl) (d : pj_d cc pc (.dup2) 1 q) (hc : va.category = 2) (k : pj_W K H lo q ls (va :: va :: st)) : pj_W K H lo pc ls (va :: st) := by
  obtain ⟨d, rfl⟩ := d
  exact lv_dup2_2 C.1 C.2.1 d hc k
theorem pj_ldc {B : pj_B} {A : Nat → Prop} {K : pj_K} {cc : ByteArray} {nL : Nat} {own : String} {lvl : Nat} {H : Heap} {lo : List Loc} {ls : Array Slot} {st : List Value} {pc q : Nat} {index : Nat} {v : Int32} (C : pj_C B A K cc nL own lvl) (hw : Cond.constant own index v ∈ pj_tbl) (d : pj_d cc pc (.ldc index) 2 q) (k : pj_W K H lo q ls (.int v :: st)) : pj_W K H lo pc ls st := by
  obtain ⟨d, rfl⟩ := d
  exact W.ldc C.1 C.2.1 C.2.2.2.1 (C.2.2.2.2.1 _ hw) rfl d k
theorem pj_ldcw {B : pj_B} {A : Nat → Prop} {K : pj_K} {cc : ByteArray} {nL : Nat} {own : String} {lvl : Nat} {H : Heap} {lo : List Loc} {ls : Array Slot} {st : List Value} {pc q : Nat} {index : Nat} {v : Int32} (C : pj_C B A K cc nL own lvl) (hw : Cond.constant own index v ∈ pj_tbl) (d : pj_d cc pc (.ldc_w index) 3 q) (k : pj_W K H lo q ls (.int v :: st)) : pj_W K H lo pc ls st := by
  obtain ⟨d, rfl⟩ := d
  exact lv_ldcw C.1 C.2.1 C.2.2.2.1 (C.2.2.2.2.1 _ hw) d k
theorem pj_ldc2 {B : pj_B} {A : Nat → Prop} {K : pj_K} {cc : ByteArray} {nL : Nat} {own : String} {lvl : Nat} {H : Heap} {lo : List Loc} {ls : Array Slot} {st : List Value} {pc q : Nat} {index : Nat} {v : Int64} (C : pj_C B A K cc nL own lvl) (hw : Cond.constantLong own index v ∈ pj_tbl) (d : pj_d cc pc (.ldc2_w index) 3 q) (k : pj_W K H lo q ls (.long v :: st)) : pj_W K H lo pc ls st := by
  obtain ⟨d, rfl⟩ := d
  exact W.ldc2 C.1 C.2.1 C.2.2.2.1 (C.2.2.2.2.1 _ hw) rfl d k
theorem pj_ldcS {B : pj_B} {A : Nat → Prop} {K : pj_K} {cc : ByteArray} {nL : Nat} {own : String} {lvl : Nat} {H : Heap} {lo : List Loc} {ls : Array Slot} {st : List Value} {pc q : Nat} {index : Nat} {tx : String} {i : Nat} (C : pj_C B A K cc nL own lvl) (hw : (own, index, tx, i) ∈ pj_sl) (d : pj_d cc pc (.ldc index) 2 q) (k : pj_W K H lo q ls (.ref (B.2.2.2.2.2.1 i) :: st)) : pj_W K H lo pc ls st := by
  obtain ⟨d, rfl⟩ := d
  exact va_ldcS C.1 C.2.1 C.2.2.2.1 (C.2.2.2.2.2.1.2.2.2.2.2.2.2.1 _ hw) d k
theorem pj_goto {B : pj_B} {A : Nat → Prop} {K : pj_K} {cc : ByteArray} {nL : Nat} {own : String} {lvl : Nat} {H : Heap} {lo : List Loc} {ls : Array Slot} {st : List Value} {pc q : Nat} {off : Int} {t : Nat} (C : pj_C B A K cc nL own lvl) (d : pj_dj cc pc (.goto off) off q t) (k : pj_W K H lo t ls st) : pj_W K H lo pc ls st := by
  obtain ⟨d, rfl, ht⟩ := d
  exact lv_goto C.1 C.2.1 d ht k
theorem pj_if_eq {B : pj_B} {A : Nat → Prop} {K : pj_K} {cc : ByteArray} {nL : Nat} {own : String} {lvl : Nat} {H : Heap} {lo : List Loc} {ls : Array Slot} {st : List Value} {pc q : Nat} {x : Int32} {off : Int} {t : Nat} (C : pj_C B A K cc nL own lvl) (d : pj_dj cc pc (.ifCond .eq off) off q t) (kt : x = 0 → pj_W K H lo t ls st) (kf : ¬ x = 0 → pj_W K H lo q ls st) : pj_W K H lo pc ls (.int x :: st) := by
  obtain ⟨d, rfl, ht⟩ := d
  exact lv_if_eq C.1 C.2.1 d ht kt kf
theorem pj_ic_eq {B : pj_B} {A : Nat → Prop} {K : pj_K} {cc : ByteArray} {nL : Nat} {own : String} {lvl : Nat} {H : Heap} {lo : List Loc} {ls : Array Slot} {st : List Value} {pc q : Nat} {x y : Int32} {off : Int} {t : Nat} (C : pj_C B A K cc nL own lvl) (d : pj_dj cc pc (.if_icmp .eq off) off q t) (kt : x = y → pj_W K H lo t ls st) (kf : ¬ x = y → pj_W K H lo q ls st) : pj_W K H lo pc ls (.int y :: .int x :: st) := by
  obtain ⟨d, rfl, ht⟩ := d
  exact lv_icmp_eq C.1 C.2.1 d ht kt kf
theorem pj_if_ne {B : pj_B} {A : Nat → Prop} {K : pj_K} {cc : ByteArray} {nL : Nat} {own : String} {lvl : Nat} {H : Heap} {lo : List Loc} {ls : Array Slot} {st : List Value} {pc q : Nat} {x : Int32} {off : Int} {t : Nat} (C : pj_C B A K cc nL own lvl) (d : pj_dj cc pc (.ifCond .ne off) off q t) (kt : ¬ x = 0 → pj_W K H lo t ls st) (kf : x = 0 → pj_W K H lo q ls st) : pj_W K H lo pc ls (.int x :: st) := by
  obtain ⟨d, rfl, ht⟩ := d
  exact lv_if_ne C.1 C.2.1 d ht kt kf
theorem pj_ic_ne {B : pj_B} {A : Nat → Prop} {K : pj_K} {cc : ByteArray} {nL : Nat} {own : String} {lvl : Nat} {H : Heap} {lo : List Loc} {ls : Array Slot} {st : List Value} {pc q : Nat} {x y : Int32} {off : Int} {t : Nat} (C : pj_C B A K cc nL own lvl) (d : pj_dj cc pc (.if_icmp .ne off) off q t) (kt : ¬ x = y → pj_W K H lo t ls st) (kf : x = y → pj_W K H lo q ls st) : pj_W K H lo pc ls (.int y :: .int x :: st) := by
  obtain ⟨d, rfl, ht⟩ := d
  exact lv_icmp_ne C.1 C.2.1 d ht kt kf
theorem pj_if_lt {B : pj_B} {A : Nat → Prop} {K : pj_K} {cc : ByteArray} {nL : Nat} {own : String} {lvl : Nat} {H : Heap} {lo : List Loc} {ls : Array Slot} {st : List Value} {pc q : Nat} {x : Int32} {off : Int} {t : Nat} (C : pj_C B A K cc nL own lvl) (d : pj_dj cc pc (.ifCond .lt off) off q t) (kt : x < 0 → pj_W K H lo t ls st) (kf : ¬ x < 0 → pj_W K H lo q ls st) : pj_W K H lo pc ls (.int x :: st) := by
  obtain ⟨d, rfl, ht⟩ := d
  exact lv_if_lt C.1 C.2.1 d ht kt kf
theorem pj_ic_lt {B : pj_B} {A : Nat → Prop} {K : pj_K} {cc : ByteArray} {nL : Nat} {own : String} {lvl : Nat} {H : Heap} {lo : List Loc} {ls : Array Slot} {st : List Value} {pc q : Nat} {x y : Int32} {off : Int} {t : Nat} (C : pj_C B A K cc nL own lvl) (d : pj_dj cc pc (.if_icmp .lt off) off q t) (kt : x < y → pj_W K H lo t ls st) (kf : ¬ x < y → pj_W K H lo q ls st) : pj_W K H lo pc ls (.int y :: .int x :: st) := by
  obtain ⟨d, rfl, ht⟩ := d
  exact lv_icmp_lt C.1 C.2.1 d ht kt kf
theorem pj_if_ge {B : pj_B} {A : Nat → Prop} {K : pj_K} {cc : ByteArray} {nL : Nat} {own : String} {lvl : Nat} {H : Heap} {lo : List Loc} {ls : Array Slot} {st : List Value} {pc q : Nat} {x : Int32} {off : Int} {t : Nat} (C : pj_C B A K cc nL own lvl) (d : pj_dj cc pc (.ifCond .ge off) off q t) (kt : 0 ≤ x → pj_W K H lo t ls st) (kf : ¬ 0 ≤ x → pj_W K H lo q ls st) : pj_W K H lo pc ls (.int x :: st) := by
  obtain ⟨d, rfl, ht⟩ := d
  exact lv_if_ge C.1 C.2.1 d ht kt kf
theorem pj_ic_ge {B : pj_B} {A : Nat → Prop} {K : pj_K} {cc : ByteArray} {nL : Nat} {own : String} {lvl : Nat} {H : Heap} {lo : List Loc} {ls : Array Slot} {st : List Value} {pc q : Nat} {x y : Int32} {off : Int} {t : Nat} (C : pj_C B A K cc nL own lvl) (d : pj_dj cc pc (.if_icmp .ge off) off q t) (kt : y ≤ x → pj_W K H lo t ls st) (kf : ¬ y ≤ x → pj_W K H lo q ls st) : pj_W K H lo pc ls (.int y :: .int x :: st) := by
  obtain ⟨d, rfl, ht⟩ := d
  exact lv_icmp_ge C.1 C.2.1 d ht kt kf
theorem pj_if_gt {B : pj_B} {A : Nat → Prop} {K : pj_K} {cc : ByteArray} {nL : Nat} {own : String} {lvl : Nat} {H : Heap} {lo : List Loc} {ls : Array Slot} {st : List Value} {pc q : Nat} {x : Int32} {off : Int} {t : Nat} (C : pj_C B A K cc nL own lvl) (d : pj_dj cc pc (.ifCond .gt off) off q t) (kt : 0 < x → pj_W K H lo t ls st) (kf : ¬ 0 < x → pj_W K H lo q ls st) : pj_W K H lo pc ls (.int x :: st) := by
  obtain ⟨d, rfl, ht⟩ := d
  exact lv_if_gt C.1 C.2.1 d ht kt kf
theorem pj_ic_gt {B : pj_B} {A : Nat → Prop} {K : pj_K} {cc : ByteArray} {nL : Nat} {own : String} {lvl : Nat} {H : Heap} {lo : List Loc} {ls : Array Slot} {st : List Value} {pc q : Nat} {x y : Int32} {off : Int} {t : Nat} (C : pj_C B A K cc nL own lvl) (d : pj_dj cc pc (.if_icmp .gt off) off q t) (kt : y < x → pj_W K H lo t ls st) (kf : ¬ y < x → pj_W K H lo q ls st) : pj_W K H lo pc ls (.int y :: .int x :: st) := by
  obtain ⟨d, rfl, ht⟩ := d
  exact lv_icmp_gt C.1 C.2.1 d ht kt kf
theorem pj_if_le {B : pj_B} {A : Nat → Prop} {K : pj_K} {cc : ByteArray} {nL : Nat} {own : String} {lvl : Nat} {H : Heap} {lo : List Loc} {ls : Array Slot} {st : List Value} {pc q : Nat} {x : Int32} {off : Int} {t : Nat} (C : pj_C B A K cc nL own lvl) (d : pj_dj cc pc (.ifCond .le off) off q t) (kt : x ≤ 0 → pj_W K H lo t ls st) (kf : ¬ x ≤ 0 → pj_W K H lo q ls st) : pj_W K H lo pc ls (.int x :: st) := by
  obtain ⟨d, rfl, ht⟩ := d
  exact lv_if_le C.1 C.2.1 d ht kt kf
theorem pj_ic_le {B : pj_B} {A : Nat → Prop} {K : pj_K} {cc : ByteArray} {nL : Nat} {own : String} {lvl : Nat} {H : Heap} {lo : List Loc} {ls : Array Slot} {st : List Value} {pc q : Nat} {x y : Int32} {off : Int} {t : Nat} (C : pj_C B A K cc nL own lvl) (d : pj_dj cc pc (.if_icmp .le off) off q t) (kt : x ≤ y → pj_W K H lo t ls st) (kf : ¬ x ≤ y → pj_W K H lo q ls st) : pj_W K H lo pc ls (.int y :: .int x :: st) := by
  obtain ⟨d, rfl, ht⟩ := d
  exact lv_icmp_le C.1 C.2.1 d ht kt kf
theorem pj_swI {B : pj_B} {A : Nat → Prop} {K : pj_K} {cc : ByteArray} {nL : Nat} {own : String} {lvl : Nat} {H : Heap} {lo : List Loc} {ls : Array Slot} {st : List Value} {pc q : Nat} {dflt a b : Int} {offs : Array Int} {len : Nat} {x : Int32} (v : Int32) (off : Int) (t : Nat) (C : pj_C B A K cc nL own lvl) (d : pj_d cc pc (.tableswitch dflt a b offs) len q) (hx : x = v) (hv : (!decide (v.toInt < a) && !decide (b < v.toInt) && decide (offs[(v.toInt - a).toNat]? = some off) && decide ((pc : Int) + off = (t : Int))) = true) (k : pj_W K H lo t ls st) : pj_W K H lo pc ls (.int x :: st) := by
  obtain ⟨d, rfl⟩ := d
  subst hx
  simp only [Bool.and_eq_true, Bool.not_eq_true', decide_eq_false_iff_not, decide_eq_true_eq] at hv
  exact lv_tableIn C.1 C.2.1 d hv.1.1.1 hv.1.1.2 hv.1.2 hv.2 k
theorem pj_swO {B : pj_B} {A : Nat → Prop} {K : pj_K} {cc : ByteArray} {nL : Nat} {own : String} {lvl : Nat} {H : Heap} {lo : List Loc} {ls : Array Slot} {st : List Value} {pc q : Nat} {dflt a b : Int} {offs : Array Int} {len : Nat} {x : Int32} (t : Nat) (C : pj_C B A K cc nL own lvl) (d : pj_d cc pc (.tableswitch dflt a b offs) len q) (hx : x.toInt < a ∨ b < x.toInt) (hv : (pc : Int) + dflt = (t : Int)) (k : pj_W K H lo t ls st) : pj_W K H lo pc ls (.int x :: st) := by
  obtain ⟨d, rfl⟩ := d
  exact lv_tableOut C.1 C.2.1 d hx hv k
theorem pj_nI {x v : Int32} {n : Int} (h : ¬ x = v) (e : v.toInt = n) : x.toInt ≠ n := by
  rw [← e]
  exact fun q => h (Int32.toInt_inj.mp q)
/-- a field by its link: own's pool entry, the class's number, its place -/
def pj_fl (own : String) (index ci j : Nat) (C : String) (T : u_T) (N : Nat) : Prop := vwCl[ci]? = some (C, T, N) ∧ j < N ∧ (T j).1 = C ∧ Cond.fieldLink own index C (T j).2.1 (T j).2.2.1 ∈ pj_tbl ∧ (∀ w ∈ u_ws C T N, w ∈ pj_tbl) ∧ (∀ k, k < N → (parseFieldDescriptor (T k).2.2.1).isSome = true) ∧ (∀ a, a < N → ∀ b, b < N → a ≠ b → (T a).2.1 ≠ (T b).2.1)
def pj_t0 (T : u_T) : Nat → FieldType := fun k => (parseFieldDescriptor (T k).2.2.1).getD .int
theorem pj_t0_ok {T : u_T} {N : Nat} (h : ∀ k, k < N → (parseFieldDescriptor (T k).2.2.1).isSome = true) : ∀ k, k < N → parseFieldDescriptor (T k).2.2.1 = some (pj_t0 T k) := by
  intro k hk
  have := h k hk
  unfold pj_t0
  cases hq : parseFieldDescriptor (T k).2.2.1 with
  | none => rw [hq] at this; cases this
  | some t => rfl
theorem pj_getI {B : pj_B} {A : Nat → Prop} {K : pj_K} {cc : ByteArray} {nL : Nat} {own : String} {lvl : Nat} {H : Heap} {lo : List Loc} {ls : Array Slot} {st : List Value} {pc q : Nat} {ci j n : Nat} {R : String} {T : u_T} {N : Nat} {l : List (Nat × Nat)} {index : Nat} {z : pj_S} (C : pj_C B A K cc nL own lvl) (P : pj_P B A K z H lo) (k : Nat) (hk : B.2.2.2.1[k]? = some (.inl (ci, l))) (hj : l[j]? = some (0, n)) (f : pj_fl own index ci j R T N) (d : pj_d cc pc (.getfield index) 3 q) (kk : pj_W K H lo q ls (.int (z.1 k j) :: st)) : pj_W K H lo pc ls (.ref (B.2.1 k) :: st) := by
  obtain ⟨d, rfl⟩ := d
  obtain ⟨f1, f2, f3, f4, f5, f6, f7⟩ := f
  exact va_get C.1 C.2.1 C.2.2.2.2.1 f5 C.2.2.2.1 C.2.2.2.2.2.1.1 P.1 k (pj_wg hk) f1 j f2 (C.2.2.2.2.1 _ f4) (by rw [f3]; exact fun _ h => h) (v := .int (z.1 k j)) (by simp [List.getElem?_mapIdx, hj, pj_fv]) d kk
theorem pj_getJ {B : pj_B} {A : Nat → Prop} {K : pj_K} {cc : ByteArray} {nL : Nat} {own : String} {lvl : Nat} {H : Heap} {lo : List Loc} {ls : Array Slot} {st : List Value} {pc q : Nat} {ci j n : Nat} {R : String} {T : u_T} {N : Nat} {l : List (Nat × Nat)} {index : Nat} {z : pj_S} (C : pj_C B A K cc nL own lvl) (P : pj_P B A K z H lo) (k : Nat) (hk : B.2.2.2.1[k]? = some (.inl (ci, l))) (hj : l[j]? = some (1, n)) (f : pj_fl own index ci j R T N) (d : pj_d cc pc (.getfield index) 3 q) (kk : pj_W K H lo q ls (.long (z.2 k j) :: st)) : pj_W K H lo pc ls (.ref (B.2.1 k) :: st) := by
  obtain ⟨d, rfl⟩ := d
  obtain ⟨f1, f2, f3, f4, f5, f6, f7⟩ := f
  exact va_get C.1 C.2.1 C.2.2.2.2.1 f5 C.2.2.2.1 C.2.2.2.2.2.1.1 P.1 k (pj_wg hk) f1 j f2 (C.2.2.2.2.1 _ f4) (by rw [f3]; exact fun _ h => h) (v := .long (z.2 k j)) (by simp [List.getElem?_mapIdx, hj, pj_fv]) d kk
theorem pj_getR {B : pj_B} {A : Nat → Prop} {K : pj_K} {cc : ByteArray} {nL : Nat} {own : String} {lvl : Nat} {H : Heap} {lo : List Loc} {ls : Array Slot} {st : List Value} {pc q : Nat} {ci j n : Nat} {R : String} {T : u_T} {N : Nat} {l : List (Nat × Nat)} {index : Nat} {z : pj_S} (C : pj_C B A K cc nL own lvl) (P : pj_P B A K z H lo) (k : Nat) (hk : B.2.2.2.1[k]? = some (.inl (ci, l))) (hj : l[j]? = some (2, n)) (f : pj_fl own index ci j R T N) (d : pj_d cc pc (.getfield index) 3 q) (kk : pj_W K H lo q ls (.ref (B.2.1 n) :: st)) : pj_W K H lo pc ls (.ref (B.2.1 k) :: st) := by
  obtain ⟨d, rfl⟩ := d
  obtain ⟨f1, f2, f3, f4, f5, f6, f7⟩ := f
  exact va_get C.1 C.2.1 C.2.2.2.2.1 f5 C.2.2.2.1 C.2.2.2.2.2.1.1 P.1 k (pj_wg hk) f1 j f2 (C.2.2.2.2.1 _ f4) (by rw [f3]; exact fun _ h => h) (v := .ref (B.2.1 n)) (by simp [List.getElem?_mapIdx, hj, pj_fv]) d kk
theorem pj_putI {B : pj_B} {A : Nat → Prop} {K : pj_K} {cc : ByteArray} {nL : Nat} {own : String} {lvl : Nat} {H : Heap} {lo : List Loc} {ls : Array Slot} {st : List Value} {pc q : Nat} {ci j n : Nat} {R : String} {T : u_T} {N : Nat} {l : List (Nat × Nat)} {index : Nat} {z : pj_S} {v : Int32} (C : pj_C B A K cc nL own lvl) (P : pj_P B A K z H lo) (k : Nat) (hk : B.2.2.2.1[k]? = some (.inl (ci, l))) (hj : l[j]? = some (0, n)) (f : pj_fl own index ci j R T N) (hfin : (T j).2.2.2 = false) (hty : parseFieldDescriptor (T j).2.2.1 = some .int) (d : pj_d cc pc (.putfield index) 3 q) (kk : ∀ (H2 : Heap) (lo2 : List Loc), pj_P B A K (pj_sI z k j v) H2 lo2 → pj_W K H2 lo2 q ls st) : pj_W K H lo pc ls (.int v :: .ref (B.2.1 k) :: st) := by
  obtain ⟨d, rfl⟩ := d
  obtain ⟨f1, f2, f3, f4, f5, f6, f7⟩ := f
  refine va_put (ty := .int) (v := .int v) C.1 C.2.1 C.2.2.2.2.1 f5 (pj_t0 T) (pj_t0_ok f6) f7 C.2.2.2.1 C.2.2.2.2.2.1.1 P.1 (C.D z) P.2 k (pj_wg hk) f1 j f2 (C.2.2.2.2.1 _ f4) (by rw [f3]; exact fun _ h => h) hfin hty rfl rfl (by simpa using (List.getElem?_eq_some_iff.mp hj).1) d (fun H2 lo2 hP hD hS => kk H2 lo2 ⟨?_, hS⟩)
  rw [pj_fsI hj] at hP
  rw [← pj_ws_ (z := z) (z' := pj_sI z k j v) hk (by intro a ha; simp [pj_sI, ha]) (by intro a ha; simp [pj_sI, ha])]
  exact hP
theorem pj_putZ {B : pj_B} {A : Nat → Prop} {K : pj_K} {cc : ByteArray} {nL : Nat} {own : String} {lvl : Nat} {H : Heap} {lo : List Loc} {ls : Array Slot} {st : List Value} {pc q : Nat} {ci j n : Nat} {R : String} {T : u_T} {N : Nat} {l : List (Nat × Nat)} {index : Nat} {z : pj_S} {v : Int32} (C : pj_C B A K cc nL own lvl) (P : pj_P B A K z H lo) (k : Nat) (hk : B.2.2.2.1[k]? = some (.inl (ci, l))) (hj : l[j]? = some (0, n)) (f : pj_fl own index ci j R T N) (hfin : (T j).2.2.2 = false) (hty : parseFieldDescriptor (T j).2.2.1 = some .boolean) (hb : pj_bo v = true) (d : pj_d cc pc (.putfield index) 3 q) (kk : ∀ (H2 : Heap) (lo2 : List Loc), pj_P B A K (pj_sI z k j v) H2 lo2 → pj_W K H2 lo2 q ls st) : pj_W K H lo pc ls (.int v :: .ref (B.2.1 k) :: st) := by
  obtain ⟨d, rfl⟩ := d
  obtain ⟨f1, f2, f3, f4, f5, f6, f7⟩ := f
  refine va_put (ty := .boolean) (v := .int v) C.1 C.2.1 C.2.2.2.2.1 f5 (pj_t0 T) (pj_t0_ok f6) f7 C.2.2.2.1 C.2.2.2.2.2.1.1 P.1 (C.D z) P.2 k (pj_wg hk) f1 j f2 (C.2.2.2.2.1 _ f4) (by rw [f3]; exact fun _ h => h) hfin hty (pj_boN hb) (pj_boF hb) (by simpa using (List.getElem?_eq_some_iff.mp hj).1) d (fun H2 lo2 hP hD hS => kk H2 lo2 ⟨?_, hS⟩)
  rw [pj_fsI hj] at hP
  rw [← pj_ws_ (z := z) (z' := pj_sI z k j v) hk (by intro a ha; simp [pj_sI, ha]) (by intro a ha; simp [pj_sI, ha])]
  exact hP
theorem pj_putJ {B : pj_B} {A : Nat → Prop} {K : pj_K} {cc : ByteArray} {nL : Nat} {own : String} {lvl : Nat} {H : Heap} {lo : List Loc} {ls : Array Slot} {st : List Value} {pc q : Nat} {ci j n : Nat} {R : String} {T : u_T} {N : Nat} {l : List (Nat × Nat)} {index : Nat} {z : pj_S} {v : Int64} (C : pj_C B A K cc nL own lvl) (P : pj_P B A K z H lo) (k : Nat) (hk : B.2.2.2.1[k]? = some (.inl (ci, l))) (hj : l[j]? = some (1, n)) (f : pj_fl own index ci j R T N) (hfin : (T j).2.2.2 = false) (hty : parseFieldDescriptor (T j).2.2.1 = some .long) (d : pj_d cc pc (.putfield index) 3 q) (kk : ∀ (H2 : Heap) (lo2 : List Loc), pj_P B A K (pj_sJ z k j v) H2 lo2 → pj_W K H2 lo2 q ls st) : pj_W K H lo pc ls (.long v :: .ref (B.2.1 k) :: st) := by
  obtain ⟨d, rfl⟩ := d
  obtain ⟨f1, f2, f3, f4, f5, f6, f7⟩ := f
  refine va_put (ty := .long) (v := .long v) C.1 C.2.1 C.2.2.2.2.1 f5 (pj_t0 T) (pj_t0_ok f6) f7 C.2.2.2.1 C.2.2.2.2.2.1.1 P.1 (C.D z) P.2 k (pj_wg hk) f1 j f2 (C.2.2.2.2.1 _ f4) (by rw [f3]; exact fun _ h => h) hfin hty rfl rfl (by simpa using (List.getElem?_eq_some_iff.mp hj).1) d (fun H2 lo2 hP hD hS => kk H2 lo2 ⟨?_, hS⟩)
  rw [pj_fsJ hj] at hP
  rw [← pj_ws_ (z := z) (z' := pj_sJ z k j v) hk (by intro a ha; simp [pj_sJ, ha]) (by intro a ha; simp [pj_sJ, ha])]
  exact hP
theorem pj_iald {B : pj_B} {A : Nat → Prop} {K : pj_K} {cc : ByteArray} {nL : Nat} {own : String} {lvl : Nat} {H : Heap} {lo : List Loc} {ls : Array Slot} {st : List Value} {pc q : Nat} {len : Nat} {i : Int32} {z : pj_S} (C : pj_C B A K cc nL own lvl) (P : pj_P B A K z H lo) (k : Nat) (hk : B.2.2.2.1[k]? = some (.inr (len, 0))) (hi : pj_in i len = true) (d : pj_d cc pc (.iaload) 1 q) (kk : pj_W K H lo q ls (.int (z.1 k i.toNatClampNeg) :: st)) : pj_W K H lo pc ls (.int i :: .ref (B.2.1 k) :: st) := by
  obtain ⟨d, rfl⟩ := d
  exact va_iald C.1 C.2.1 C.2.2.2.2.2.1.1 P.1 k 0 (pj_wg hk) rfl (pj_inE hi) d kk
theorem pj_lald {B : pj_B} {A : Nat → Prop} {K : pj_K} {cc : ByteArray} {nL : Nat} {own : String} {lvl : Nat} {H : Heap} {lo : List Loc} {ls : Array Slot} {st : List Value} {pc q : Nat} {len : Nat} {i : Int32} {z : pj_S} (C : pj_C B A K cc nL own lvl) (P : pj_P B A K z H lo) (k : Nat) (hk : B.2.2.2.1[k]? = some (.inr (len, 1))) (hi : pj_in i len = true) (d : pj_d cc pc (.laload) 1 q) (kk : pj_W K H lo q ls (.long (z.2 k i.toNatClampNeg) :: st)) : pj_W K H lo pc ls (.int i :: .ref (B.2.1 k) :: st) := by
  obtain ⟨d, rfl⟩ := d
  exact va_lald C.1 C.2.1 C.2.2.2.2.2.1.1 P.1 k 1 (pj_wg hk) rfl (pj_inE hi) d kk
theorem pj_bald {B : pj_B} {A : Nat → Prop} {K : pj_K} {cc : ByteArray} {nL : Nat} {own : String} {lvl : Nat} {H : Heap} {lo : List Loc} {ls : Array Slot} {st : List Value} {pc q : Nat} {len : Nat} {i : Int32} {z : pj_S} (C : pj_C B A K cc nL own lvl) (P : pj_P B A K z H lo) (k : Nat) (hk : B.2.2.2.1[k]? = some (.inr (len, 2))) (hi : pj_in i len = true) (d : pj_d cc pc (.baload) 1 q) (kk : pj_W K H lo q ls (.int (z.1 k i.toNatClampNeg) :: st)) : pj_W K H lo pc ls (.int i :: .ref (B.2.1 k) :: st) := by
  obtain ⟨d, rfl⟩ := d
  exact va_bald C.1 C.2.1 C.2.2.2.2.2.1.1 P.1 k 2 (pj_wg hk) rfl (pj_inE hi) d kk
theorem pj_iast {B : pj_B} {A : Nat → Prop} {K : pj_K} {cc : ByteArray} {nL : Nat} {own : String} {lvl : Nat} {H : Heap} {lo : List Loc} {ls : Array Slot} {st : List Value} {pc q : Nat} {len : Nat} {i : Int32} {v : Int32} {z : pj_S} (C : pj_C B A K cc nL own lvl) (P : pj_P B A K z H lo) (k : Nat) (hk : B.2.2.2.1[k]? = some (.inr (len, 0))) (hi : pj_in i len = true) (d : pj_d cc pc (.iastore) 1 q) (kk : ∀ (H2 : Heap) (lo2 : List Loc), pj_P B A K (pj_sI z k i.toNatClampNeg v) H2 lo2 → pj_W K H2 lo2 q ls st) : pj_W K H lo pc ls (.int v :: .int i :: .ref (B.2.1 k) :: st) := by
  obtain ⟨d, rfl⟩ := d
  refine va_iast C.1 C.2.1 C.2.2.2.2.2.1.1 P.1 (C.D z) P.2 k 0 (pj_wg hk) rfl (pj_inE hi) d (fun H2 lo2 hP hD hS => kk H2 lo2 ⟨?_, hS⟩)
  rw [← pj_ws_ (z := z) (z' := pj_sI z k i.toNatClampNeg v) hk (by intro a ha; simp [pj_sI, ha]) (by intro a ha; simp [pj_sI, ha])]
  simpa [pj_e, pj_sI] using hP
theorem pj_last {B : pj_B} {A : Nat → Prop} {K : pj_K} {cc : ByteArray} {nL : Nat} {own : String} {lvl : Nat} {H : Heap} {lo : List Loc} {ls : Array Slot} {st : List Value} {pc q : Nat} {len : Nat} {i : Int32} {v : Int64} {z : pj_S} (C : pj_C B A K cc nL own lvl) (P : pj_P B A K z H lo) (k : Nat) (hk : B.2.2.2.1[k]? = some (.inr (len, 1))) (hi : pj_in i len = true) (d : pj_d cc pc (.lastore) 1 q) (kk : ∀ (H2 : Heap) (lo2 : List Loc), pj_P B A K (pj_sJ z k i.toNatClampNeg v) H2 lo2 → pj_W K H2 lo2 q ls st) : pj_W K H lo pc ls (.long v :: .int i :: .ref (B.2.1 k) :: st) := by
  obtain ⟨d, rfl⟩ := d
  refine va_last C.1 C.2.1 C.2.2.2.2.2.1.1 P.1 (C.D z) P.2 k 1 (pj_wg hk) rfl (pj_inE hi) d (fun H2 lo2 hP hD hS => kk H2 lo2 ⟨?_, hS⟩)
  rw [← pj_ws_ (z := z) (z' := pj_sJ z k i.toNatClampNeg v) hk (by intro a ha; simp [pj_sJ, ha]) (by intro a ha; simp [pj_sJ, ha])]
  simpa [pj_e, pj_sJ] using hP
theorem pj_bast {B : pj_B} {A : Nat → Prop} {K : pj_K} {cc : ByteArray} {nL : Nat} {own : String} {lvl : Nat} {H : Heap} {lo : List Loc} {ls : Array Slot} {st : List Value} {pc q : Nat} {len : Nat} {i : Int32} {v : Int32} {z : pj_S} (C : pj_C B A K cc nL own lvl) (P : pj_P B A K z H lo) (k : Nat) (hk : B.2.2.2.1[k]? = some (.inr (len, 2))) (hi : pj_in i len = true) (d : pj_d cc pc (.bastore) 1 q) (kk : ∀ (H2 : Heap) (lo2 : List Loc), pj_P B A K (pj_sI z k i.toNatClampNeg (vp_nar .byte v)) H2 lo2 → pj_W K H2 lo2 q ls st) : pj_W K H lo pc ls (.int v :: .int i :: .ref (B.2.1 k) :: st) := by
  obtain ⟨d, rfl⟩ := d
  refine va_bast C.1 C.2.1 C.2.2.2.2.2.1.1 P.1 (C.D z) P.2 k 2 (pj_wg hk) rfl (pj_inE hi) d (fun H2 lo2 hP hD hS => kk H2 lo2 ⟨?_, hS⟩)
  rw [← pj_ws_ (z := z) (z' := pj_sI z k i.toNatClampNeg (vp_nar .byte v)) hk (by intro a ha; simp [pj_sI, ha]) (by intro a ha; simp [pj_sI, ha])]
  simpa [pj_e, pj_sI] using hP
theorem pj_alen {B : pj_B} {A : Nat → Prop} {K : pj_K} {cc : ByteArray} {nL : Nat} {own : String} {lvl : Nat} {H : Heap} {lo : List Loc} {ls : Array Slot} {st : List Value} {pc q : Nat} {len kd : Nat} {z : pj_S} (v : Int32) (C : pj_C B A K cc nL own lvl) (P : pj_P B A K z H lo) (k : Nat) (hk : B.2.2.2.1[k]? = some (.inr (len, kd))) (hd : kd < 3) (hv : Int32.ofNat len = v) (d : pj_d cc pc .arraylength 1 q) (kk : pj_W K H lo q ls (.int v :: st)) : pj_W K H lo pc ls (.ref (B.2.1 k) :: st) := by
  obtain ⟨d, rfl⟩ := d
  match kd, hd with
  | 0, _ => exact va_alen C.1 C.2.1 C.2.2.2.2.2.1.1 P.1 k 0 (pj_wg hk) rfl hv d kk
  | 1, _ => exact va_alen C.1 C.2.1 C.2.2.2.2.2.1.1 P.1 k 1 (pj_wg hk) rfl hv d kk
  | 2, _ => exact va_alen C.1 C.2.1 C.2.2.2.2.2.1.1 P.1 k 2 (pj_wg hk) rfl hv d kk
end
section
theorem pj_mem (i : Nat) {w : Cond} (h : lw_tbl[i]? = some w) (g : goodWord w = true) : w ∈ pj_tbl := List.mem_filter.mpr ⟨List.mem_of_getElem? h, g⟩
theorem pj_good {y : MethodName} {c : ByteArray} {n : Nat} {r : Option FieldType} (h : Cond.code y c n r ∈ pj_tbl) : GoodIn pj_tbl (pj_ws y c n r) := by
  intro w hw
  rcases List.mem_cons.mp hw with rfl | hw
  · exact ⟨h, good_of_word (List.mem_filter.mp h).2⟩
  · exact ⟨hw, good_of_word (List.mem_filter.mp hw).2⟩
def pj_Pre (B : pj_B) (z : pj_S) (sz : Nat) : State → Prop := fun U => U.heap.size = sz ∧ va_P B.1 vwCl (pj_w B z) U.heap ∧ pj_T B (pj_ar B sz) U ∧ pj_apart B
theorem pj_Pre.blind {av : List Value} {B : pj_B} {z : pj_S} {sz : Nat} : FrameBlind (va_Pc av (pj_Pre B z sz)) := fun a U g mk q => ⟨q.1, q.2.1, q.2.2.1, ⟨va_K.moved (u := U) (U := U.calling g mk a) (Vm.Alike.refl U.vm) q.2.2.2.1.1, pj_stat.same (u := U) (U := U.calling g mk a) q.2.2.2.1.2 rfl⟩, q.2.2.2.2⟩
def pj_Mi (l : Launch) (y : MethodName) (c : ByteArray) (n : Nat) (ret : Option FieldType) (lv : Nat) (av : List Value) (B : pj_B) (z : pj_S) (r0 : Int32) (z0 : pj_S) : Prop := ∀ sz : Nat, Met l y (pj_ws y c n ret) (pj_rm lv) (va_Pc av (pj_Pre B z sz)) (va_Qi (fun r (u : pj_S) => r = r0 ∧ u = z0) (fun u t => va_P B.1 vwCl (pj_w B u) t.heap) (pj_ar B sz)) 0 0 (pj_ar B sz)
def pj_Qi (B : pj_B) (A : Nat → Prop) (K : pj_K) (ret : Option FieldType) (r0 : Int32) (z0 : pj_S) : Prop := K.2.2.2.2.2.2.2.2.2.2.2.2 = MQ K.2.2.2.2.2.2.2.1 (va_Qi (fun r (u : pj_S) => r = r0 ∧ u = z0) (fun u t => va_P B.1 vwCl (pj_w B u) t.heap) A) K.2.2.2.2.2.2.1 K.2.2.2.2.1 K.2.2.2.2.2.2.2.2.2.2.1 K.2.2.2.2.2.2.2.2.2.2.2.1 A ∧ K.2.2.2.2.2.2.2.2.1.sig.returnType = ret ∧ K.2.2.2.2.2.2.2.2.1.locks = false
def pj_Ml (l : Launch) (y : MethodName) (c : ByteArray) (n : Nat) (ret : Option FieldType) (lv : Nat) (av : List Value) (B : pj_B) (z : pj_S) (r0 : Int64) (z0 : pj_S) : Prop := ∀ sz : Nat, Met l y (pj_ws y c n ret) (pj_rm lv) (va_Pc av (pj_Pre B z sz)) (va_Ql (fun r (u : pj_S) => r = r0 ∧ u = z0) (fun u t => va_P B.1 vwCl (pj_w B u) t.heap) (pj_ar B sz)) 0 0 (pj_ar B sz)
def pj_Ql (B : pj_B) (A : Nat → Prop) (K : pj_K) (ret : Option FieldType) (r0 : Int64) (z0 : pj_S) : Prop := K.2.2.2.2.2.2.2.2.2.2.2.2 = MQ K.2.2.2.2.2.2.2.1 (va_Ql (fun r (u : pj_S) => r = r0 ∧ u = z0) (fun u t => va_P B.1 vwCl (pj_w B u) t.heap) A) K.2.2.2.2.2.2.1 K.2.2.2.2.1 K.2.2.2.2.2.2.2.2.2.2.1 K.2.2.2.2.2.2.2.2.2.2.2.1 A ∧ K.2.2.2.2.2.2.2.2.1.sig.returnType = ret ∧ K.2.2.2.2.2.2.2.2.1.locks = false
def pj_Mv (l : Launch) (y : MethodName) (c : ByteArray) (n : Nat) (ret : Option FieldType) (lv : Nat) (av : List Value) (B : pj_B) (z : pj_S) (r0 : Unit) (z0 : pj_S) : Prop := ∀ sz : Nat, Met l y (pj_ws y c n ret) (pj_rm lv) (va_Pc av (pj_Pre B z sz)) (va_Qv (fun (u : pj_S) => u = z0) (fun u t => va_P B.1 vwCl (pj_w B u) t.heap) (pj_ar B sz)) 0 0 (pj_ar B sz)
def pj_Qv (B : pj_B) (A : Nat → Prop) (K : pj_K) (ret : Option FieldType) (r0 : Unit) (z0 : pj_S) : Prop := K.2.2.2.2.2.2.2.2.2.2.2.2 = MQ K.2.2.2.2.2.2.2.1 (va_Qv (fun (u : pj_S) => u = z0) (fun u t => va_P B.1 vwCl (pj_w B u) t.heap) A) K.2.2.2.2.2.2.1 K.2.2.2.2.1 K.2.2.2.2.2.2.2.2.2.2.1 K.2.2.2.2.2.2.2.2.2.2.2.1 A ∧ K.2.2.2.2.2.2.2.2.1.sig.returnType = ret ∧ K.2.2.2.2.2.2.2.2.1.locks = false
theorem pj_iret {B : pj_B} {A : Nat → Prop} {K : pj_K} {cc : ByteArray} {nL : Nat} {own : String} {lvl : Nat} {H : Heap} {lo : List Loc} {ls : Array Slot} {st : List Value} {pc q : Nat} {z z0 : pj_S} {v r0 : Int32} (C : pj_C B A K cc nL own lvl) (Q : pj_Qi B A K (some .int) r0 z0) (P : pj_P B A K z H lo) (h : some (v, z) = some (r0, z0)) (d : pj_d cc pc .ireturn 1 q) : pj_W K H lo pc ls [.int v] := by
  cases h
  unfold pj_W
  rw [Q.1]
  exact W.iret C.1 C.2.1 Q.2.1 (fun t ht hW => ⟨⟨v, z, rfl, ⟨rfl, rfl⟩, by show va_P B.1 vwCl (pj_w B z) t.heap; rw [ht]; exact P.1⟩, P.2.F ht⟩) P.2.2.2 d.1 Q.2.2
theorem pj_zret {B : pj_B} {A : Nat → Prop} {K : pj_K} {cc : ByteArray} {nL : Nat} {own : String} {lvl : Nat} {H : Heap} {lo : List Loc} {ls : Array Slot} {st : List Value} {pc q : Nat} {z z0 : pj_S} {v r0 : Int32} (C : pj_C B A K cc nL own lvl) (Q : pj_Qi B A K (some .boolean) r0 z0) (P : pj_P B A K z H lo) (h : pj_g (pj_bo v) (some (v, z)) = some (r0, z0)) (d : pj_d cc pc .ireturn 1 q) : pj_W K H lo pc ls [.int v] := by
  obtain ⟨hb, h⟩ := pj_gE h
  cases h
  unfold pj_W
  rw [Q.1]
  exact W.zret C.1 C.2.1 Q.2.1 (pj_boN hb) (fun t ht hW => ⟨⟨v, z, rfl, ⟨rfl, rfl⟩, by show va_P B.1 vwCl (pj_w B z) t.heap; rw [ht]; exact P.1⟩, P.2.F ht⟩) P.2.2.2 d.1 Q.2.2
theorem pj_lret {B : pj_B} {A : Nat → Prop} {K : pj_K} {cc : ByteArray} {nL : Nat} {own : String} {lvl : Nat} {H : Heap} {lo : List Loc} {ls : Array Slot} {st : List Value} {pc q : Nat} {z z0 : pj_S} {v r0 : Int64} (C : pj_C B A K cc nL own lvl) (Q : pj_Ql B A K (some .long) r0 z0) (P : pj_P B A K z H lo) (h : some (v, z) = some (r0, z0)) (d : pj_d cc pc .lreturn 1 q) : pj_W K H lo pc ls [.long v] := by
  cases h
  unfold pj_W
  rw [Q.1]
  exact W.lret C.1 C.2.1 Q.2.1 (fun t ht hW => ⟨⟨v, z, rfl, ⟨rfl, rfl⟩, by show va_P B.1 vwCl (pj_w B z) t.heap; rw [ht]; exact P.1⟩, P.2.F ht⟩) P.2.2.2 d.1 Q.2.2
theorem pj_vret {B : pj_B} {A : Nat → Prop} {K : pj_K} {cc : ByteArray} {nL : Nat} {own : String} {lvl : Nat} {H : Heap} {lo : List Loc} {ls : Array Slot} {st : List Value} {pc q : Nat} {z z0 : pj_S} {r0 : Unit} (C : pj_C B A K cc nL own lvl) (Q : pj_Qv B A K none r0 z0) (P : pj_P B A K z H lo) (h : some ((), z) = some (r0, z0)) (d : pj_d cc pc .return_ 1 q) : pj_W K H lo pc ls [] := by
  cases h
  unfold pj_W
  rw [Q.1]
  exact W.vret C.1 C.2.1 Q.2.1 (fun t ht hW => ⟨⟨z, rfl, rfl, by show va_P B.1 vwCl (pj_w B z) t.heap; rw [ht]; exact P.1⟩, P.2.F ht⟩) P.2.2.2 d.1 Q.2.2
set_option maxHeartbeats 2000000 in
/-- a method's contract out of a walk from its entry -/
theorem pj_meti {l : Launch} {y : MethodName} {c : ByteArray} {n lv : Nat} {ret : Option FieldType} {av : List Value} {B : pj_B} {z z0 : pj_S} {r0 : Int32} {own : String} (hy : plainName y.cls = true) (hown : y.cls = own) (hn : (lg_sl av).length ≤ n)
    (body : ∀ (A : Nat → Prop) (K : pj_K), K.2.1 = l → pj_C B A K c n own lv → pj_Qi B A K ret r0 z0 → ∀ (H : Heap) (lo : List Loc) (ls : Array Slot), pj_P B A K z H lo → lv_has ls n (lv_args 0 av) → pj_W K H lo 0 ls []) : pj_Mi l y c n ret lv av B z r0 z0 := by
  intro sz
  refine Met.ofW (cc := c) (maxL := n) (ret := ret) hy rfl ?_
  intro p e s m args below meth c0 s₁ X hml hv
  obtain ⟨rfl, hsz, hP, hT, hap⟩ := hv
  subst hsz
  have hl := lv_entry av (n := n) hn
  rw [lg_entry_eq]
  have hts := atoms_spec (ws := pj_ws y c n ret) X.pre
  have hA : ∀ k, k < B.2.2.2.1.length → pj_ar B s.heap.size (B.2.1 k) := fun k hk => Or.inl ⟨k, hk, rfl⟩
  exact body (pj_ar B s.heap.size) (p, l, e, pj_rm lv, s, m, av.toArray, below, meth, c0, 0, 0, _) rfl ⟨X.exec, X.bytes, hml, by rw [← hown]; exact findClass_of_methodNamed X.named, fun w hw => hts w (List.mem_cons_of_mem _ hw), hT, hap, hA, fun q h => Or.inr h, ⟨Nat.zero_le _, Nat.zero_le _⟩, Nat.le_refl _, Nat.le_refl _⟩ ⟨rfl, X.returns, X.notSynchronized⟩ s.heap [] _ ⟨hP, va_S.rf⟩ hl
set_option maxHeartbeats 2000000 in
/-- a method's contract out of a walk from its entry -/
theorem pj_metl {l : Launch} {y : MethodName} {c : ByteArray} {n lv : Nat} {ret : Option FieldType} {av : List Value} {B : pj_B} {z z0 : pj_S} {r0 : Int64} {own : String} (hy : plainName y.cls = true) (hown : y.cls = own) (hn : (lg_sl av).length ≤ n)
    (body : ∀ (A : Nat → Prop) (K : pj_K), K.2.1 = l → pj_C B A K c n own lv → pj_Ql B A K ret r0 z0 → ∀ (H : Heap) (lo : List Loc) (ls : Array Slot), pj_P B A K z H lo → lv_has ls n (lv_args 0 av) → pj_W K H lo 0 ls []) : pj_Ml l y c n ret lv av B z r0 z0 := by
  intro sz
  refine Met.ofW (cc := c) (maxL := n) (ret := ret) hy rfl ?_
  intro p e s m args below meth c0 s₁ X hml hv
  obtain ⟨rfl, hsz, hP, hT, hap⟩ := hv
  subst hsz
  have hl := lv_entry av (n := n) hn
  rw [lg_entry_eq]
  have hts := atoms_spec (ws := pj_ws y c n ret) X.pre
  have hA : ∀ k, k < B.2.2.2.1.length → pj_ar B s.heap.size (B.2.1 k) := fun k hk => Or.inl ⟨k, hk, rfl⟩
  exact body (pj_ar B s.heap.size) (p, l, e, pj_rm lv, s, m, av.toArray, below, meth, c0, 0, 0, _) rfl ⟨X.exec, X.bytes, hml, by rw [← hown]; exact findClass_of_methodNamed X.named, fun w hw => hts w (List.mem_cons_of_mem _ hw), hT, hap, hA, fun q h => Or.inr h, ⟨Nat.zero_le _, Nat.zero_le _⟩, Nat.le_refl _, Nat.le_refl _⟩ ⟨rfl, X.returns, X.notSynchronized⟩ s.heap [] _ ⟨hP, va_S.rf⟩ hl
set_option maxHeartbeats 2000000 in
/-- a method's contract out of a walk from its entry -/
theorem pj_metv {l : Launch} {y : MethodName} {c : ByteArray} {n lv : Nat} {ret : Option FieldType} {av : List Value} {B : pj_B} {z z0 : pj_S} {r0 : Unit} {own : String} (hy : plainName y.cls = true) (hown : y.cls = own) (hn : (lg_sl av).length ≤ n)
    (body : ∀ (A : Nat → Prop) (K : pj_K), K.2.1 = l → pj_C B A K c n own lv → pj_Qv B A K ret r0 z0 → ∀ (H : Heap) (lo : List Loc) (ls : Array Slot), pj_P B A K z H lo → lv_has ls n (lv_args 0 av) → pj_W K H lo 0 ls []) : pj_Mv l y c n ret lv av B z r0 z0 := by
  intro sz
  refine Met.ofW (cc := c) (maxL := n) (ret := ret) hy rfl ?_
  intro p e s m args below meth c0 s₁ X hml hv
  obtain ⟨rfl, hsz, hP, hT, hap⟩ := hv
  subst hsz
  have hl := lv_entry av (n := n) hn
  rw [lg_entry_eq]
  have hts := atoms_spec (ws := pj_ws y c n ret) X.pre
  have hA : ∀ k, k < B.2.2.2.1.length → pj_ar B s.heap.size (B.2.1 k) := fun k hk => Or.inl ⟨k, hk, rfl⟩
  exact body (pj_ar B s.heap.size) (p, l, e, pj_rm lv, s, m, av.toArray, below, meth, c0, 0, 0, _) rfl ⟨X.exec, X.bytes, hml, by rw [← hown]; exact findClass_of_methodNamed X.named, fun w hw => hts w (List.mem_cons_of_mem _ hw), hT, hap, hA, fun q h => Or.inr h, ⟨Nat.zero_le _, Nat.zero_le _⟩, Nat.le_refl _, Nat.le_refl _⟩ ⟨rfl, X.returns, X.notSynchronized⟩ s.heap [] _ ⟨hP, va_S.rf⟩ hl
/-- what a call's link needs: invokevirtual, invokestatic, a nest mate's static -/
def pj_gV (own : String) (idx : Nat) (y : MethodName) (c : ByteArray) (n : Nat) (ret : Option FieldType) (na : Nat) : Prop := Cond.methodLink own idx y ∈ pj_tbl ∧ Cond.instanceMethod y ∈ pj_tbl ∧ Cond.selects y.cls y y ∈ pj_tbl ∧ Cond.initialized y.cls ∈ pj_tbl ∧ Cond.code y c n ret ∈ pj_tbl ∧ y.cls ≠ "java/lang/invoke/MethodHandle" ∧ y.cls ≠ "java/lang/invoke/VarHandle" ∧ (parseMethodDescriptor y.desc).map (fun d => d.parameters.length) = some na
def pj_gS (own : String) (idx : Nat) (y : MethodName) (c : ByteArray) (n : Nat) (ret : Option FieldType) (na : Nat) : Prop := Cond.methodLink own idx y ∈ pj_tbl ∧ Cond.static y ∈ pj_tbl ∧ Cond.initialized y.cls ∈ pj_tbl ∧ Cond.code y c n ret ∈ pj_tbl ∧ y.cls ≠ "java/lang/invoke/MethodHandle" ∧ y.cls ≠ "java/lang/invoke/VarHandle" ∧ (parseMethodDescriptor y.desc).map (fun d => d.parameters.length) = some na
def pj_gN (own : String) (idx : Nat) (y : MethodName) (c : ByteArray) (n : Nat) (ret : Option FieldType) (na : Nat) : Prop := (own, idx, y) ∈ pj_nl ∧ Cond.static y ∈ pj_tbl ∧ Cond.initialized y.cls ∈ pj_tbl ∧ Cond.code y c n ret ∈ pj_tbl ∧ y.cls ≠ "java/lang/invoke/MethodHandle" ∧ y.cls ≠ "java/lang/invoke/VarHandle" ∧ (parseMethodDescriptor y.desc).map (fun d => d.parameters.length) = some na
theorem pj_area {B : pj_B} {A : Nat → Prop} {K : pj_K} {cc : ByteArray} {nL : Nat} {own : String} {lvl : Nat} {H : Heap} {lo : List Loc} {z : pj_S} (C : pj_C B A K cc nL own lvl) (P : pj_P B A K z H lo) : ∀ x, pj_ar B H.size x → A x := by
  intro x hx
  rcases hx with ⟨k, hk, rfl⟩ | hx
  · exact C.2.2.2.2.2.2.2.1 k hk
  · exact C.2.2.2.2.2.2.2.2.1 x (Nat.le_trans P.2.1 hx)
theorem pj_pre {B : pj_B} {A : Nat → Prop} {K : pj_K} {cc : ByteArray} {nL : Nat} {own : String} {lvl : Nat} {H : Heap} {lo : List Loc} {z : pj_S} (C : pj_C B A K cc nL own lvl) (P : pj_P B A K z H lo) {U : State} (hU : U.heap = H) (hW : K.2.2.2.2.1.WarmedH U.vm) (av : List Value) : va_Pc av (pj_Pre B z H.size) av.toArray U := by
  refine ⟨rfl, by rw [hU], by rw [hU]; exact P.1, ⟨va_K.moved hW.alike C.2.2.2.2.2.1.1, ?_⟩, C.2.2.2.2.2.2.1⟩
  rw [hU]
  exact C.2.2.2.2.2.1.2.to hW P.2 (pj_area C P)
theorem pj_room {B : pj_B} {A : Nat → Prop} {K : pj_K} {cc : ByteArray} {nL : Nat} {own : String} {lvl : Nat} {lv2 n2 : Nat} (C : pj_C B A K cc nL own lvl) (hl : lv2 + 1 ≤ lvl) (hn : n2 ≤ 45) : (pj_rm lv2).frames + 1 ≤ K.2.2.2.1.frames ∧ 8 + (n2 + 11) + (pj_rm lv2).locals ≤ K.2.2.2.1.locals := by
  obtain ⟨h1, h2⟩ := C.2.2.2.2.2.2.2.2.2.2
  refine ⟨Nat.le_trans hl h1, Nat.le_trans ?_ h2⟩
  show 8 + (n2 + 11) + 64 * lv2 ≤ 64 * lvl
  omega
set_option maxHeartbeats 2000000 in
theorem pj_cVi {B : pj_B} {A : Nat → Prop} {K : pj_K} {cc : ByteArray} {nL : Nat} {own : String} {lvl : Nat} {H : Heap} {lo : List Loc} {ls : Array Slot} {st : List Value} {pc q : Nat} {y : MethodName} {c2 : ByteArray} {n2 lv2 na idx : Nat} {ret : Option FieldType} {z z2 : pj_S} {r : Int32} {ci : Nat} {l : List (Nat × Nat)} {T : u_T} {N : Nat} (As : List Value) (C : pj_C B A K cc nL own lvl) (P : pj_P B A K z H lo) (k : Nat) (hk : B.2.2.2.1[k]? = some (.inl (ci, l))) (hc : vwCl[ci]? = some (y.cls, T, N)) (hM : pj_Mi K.2.1 y c2 n2 ret lv2 (.ref (B.2.1 k) :: As) B z r z2) (g : pj_gV own idx y c2 n2 ret na) (hna : As.length = na) (hl : lv2 + 1 ≤ lvl) (hn : n2 ≤ 45) (hls : ls.size = nL) (hst : (st.map fun v => v.category).sum ≤ 8) (d : pj_d cc pc (.invokevirtual idx) 3 q) (kk : ∀ (H2 : Heap) (lo2 : List Loc), pj_P B A K z2 H2 lo2 → pj_W K H2 lo2 q ls (.int r :: st)) : pj_W K H lo pc ls (As.reverse ++ .ref (B.2.1 k) :: st) := by
  obtain ⟨d, rfl⟩ := d
  obtain ⟨g1, g2, g3, g4, g5, g6, g7, g8⟩ := g
  have hts := C.2.2.2.2.1
  refine va_calli (va_runV (C := y.cls) (As := As) (rest := st) ⟨C.1, C.2.1, C.2.2.1, C.2.2.2.1, hts⟩ (hM H.size) ⟨callB_of na hts (pj_good g5) rfl rfl rfl (hts _ g4) (hts _ g1) ⟨g6, g7, g8⟩ (pj_room C hl hn), hts _ g2, hts _ g3⟩ ⟨pj_Pre.blind, va_recv C.2.2.2.2.2.1.1 P.1 hc (pj_wg hk), fun U hU hW => pj_pre C P hU hW _⟩ rfl hna hls rfl (lv_room hst) d C.2.2.2.2.2.2.2.2.2.1) P.2 (fun x _ h => pj_area C P x h) (pj_area C P) (fun r2 u t H1 lo1 ht hvm hp hB hz hk hS => ?_)
  obtain ⟨rfl, rfl⟩ := hp
  exact kk H1 lo1 ⟨by rw [← ht]; exact hB, hS⟩
set_option maxHeartbeats 2000000 in
theorem pj_cSi {B : pj_B} {A : Nat → Prop} {K : pj_K} {cc : ByteArray} {nL : Nat} {own : String} {lvl : Nat} {H : Heap} {lo : List Loc} {ls : Array Slot} {st : List Value} {pc q : Nat} {y : MethodName} {c2 : ByteArray} {n2 lv2 na idx : Nat} {ret : Option FieldType} {z z2 : pj_S} {r : Int32} (As : List Value) (C : pj_C B A K cc nL own lvl) (P : pj_P B A K z H lo) (hM : pj_Mi K.2.1 y c2 n2 ret lv2 As B z r z2) (g : pj_gS own idx y c2 n2 ret na) (hna : As.length = na) (hl : lv2 + 1 ≤ lvl) (hn : n2 ≤ 45) (hls : ls.size = nL) (hst : (st.map fun v => v.category).sum ≤ 8) (d : pj_d cc pc (.invokestatic idx) 3 q) (kk : ∀ (H2 : Heap) (lo2 : List Loc), pj_P B A K z2 H2 lo2 → pj_W K H2 lo2 q ls (.int r :: st)) : pj_W K H lo pc ls (As.reverse ++ st) := by
  obtain ⟨d, rfl⟩ := d
  obtain ⟨g1, g2, g4, g5, g6, g7, g8⟩ := g
  have hts := C.2.2.2.2.1
  refine va_calli (va_runS (As := As) (rest := st) ⟨C.1, C.2.1, C.2.2.1, C.2.2.2.1, hts⟩ (hM H.size) ⟨callB_of na hts (pj_good g5) rfl rfl rfl (hts _ g4) (hts _ g1) ⟨g6, g7, g8⟩ (pj_room C hl hn), hts _ g2⟩ ⟨pj_Pre.blind, fun U hU hW => pj_pre C P hU hW _⟩ rfl hna hls rfl (lv_room hst) d C.2.2.2.2.2.2.2.2.2.1) P.2 (fun x _ h => pj_area C P x h) (pj_area C P) (fun r2 u t H1 lo1 ht hvm hp hB hz hk hS => ?_)
  obtain ⟨rfl, rfl⟩ := hp
  exact kk H1 lo1 ⟨by rw [← ht]; exact hB, hS⟩
set_option maxHeartbeats 2000000 in
theorem pj_cNi {B : pj_B} {A : Nat → Prop} {K : pj_K} {cc : ByteArray} {nL : Nat} {own : String} {lvl : Nat} {H : Heap} {lo : List Loc} {ls : Array Slot} {st : List Value} {pc q : Nat} {y : MethodName} {c2 : ByteArray} {n2 lv2 na idx : Nat} {ret : Option FieldType} {z z2 : pj_S} {r : Int32} (As : List Value) (C : pj_C B A K cc nL own lvl) (P : pj_P B A K z H lo) (hM : pj_Mi K.2.1 y c2 n2 ret lv2 As B z r z2) (g : pj_gN own idx y c2 n2 ret na) (hna : As.length = na) (hl : lv2 + 1 ≤ lvl) (hn : n2 ≤ 45) (hls : ls.size = nL) (hst : (st.map fun v => v.category).sum ≤ 8) (d : pj_d cc pc (.invokestatic idx) 3 q) (kk : ∀ (H2 : Heap) (lo2 : List Loc), pj_P B A K z2 H2 lo2 → pj_W K H2 lo2 q ls (.int r :: st)) : pj_W K H lo pc ls (As.reverse ++ st) := by
  obtain ⟨d, rfl⟩ := d
  obtain ⟨g1, g2, g4, g5, g6, g7, g8⟩ := g
  have hts := C.2.2.2.2.1
  refine va_calli (va_runSN (As := As) (rest := st) ⟨C.1, C.2.1, C.2.2.1, C.2.2.2.1, hts⟩ (hM H.size) ⟨va_cnB na hts (pj_good g5) rfl rfl rfl (C.2.2.2.2.2.1.2.1 _ g1) (hts _ g4) ⟨g6, g7, g8⟩ (pj_room C hl hn), hts _ g2, trivial⟩ ⟨pj_Pre.blind, fun U hU hW => pj_pre C P hU hW _⟩ rfl hna hls rfl (lv_room hst) d C.2.2.2.2.2.2.2.2.2.1) P.2 (fun x _ h => pj_area C P x h) (pj_area C P) (fun r2 u t H1 lo1 ht hvm hp hB hz hk hS => ?_)
  obtain ⟨rfl, rfl⟩ := hp
  exact kk H1 lo1 ⟨by rw [← ht]; exact hB, hS⟩
set_option maxHeartbeats 2000000 in
theorem pj_cVl {B : pj_B} {A : Nat → Prop} {K : pj_K} {cc : ByteArray} {nL : Nat} {own : String} {lvl : Nat} {H : Heap} {lo : List Loc} {ls : Array Slot} {st : List Value} {pc q : Nat} {y : MethodName} {c2 : ByteArray} {n2 lv2 na idx : Nat} {ret : Option FieldType} {z z2 : pj_S} {r : Int64} {ci : Nat} {l : List (Nat × Nat)} {T : u_T} {N : Nat} (As : List Value) (C : pj_C B A K cc nL own lvl) (P : pj_P B A K z H lo) (k : Nat) (hk : B.2.2.2.1[k]? = some (.inl (ci, l))) (hc : vwCl[ci]? = some (y.cls, T, N)) (hM : pj_Ml K.2.1 y c2 n2 ret lv2 (.ref (B.2.1 k) :: As) B z r z2) (g : pj_gV own idx y c2 n2 ret na) (hna : As.length = na) (hl : lv2 + 1 ≤ lvl) (hn : n2 ≤ 45) (hls : ls.size = nL) (hst : (st.map fun v => v.category).sum ≤ 8) (d : pj_d cc pc (.invokevirtual idx) 3 q) (kk : ∀ (H2 : Heap) (lo2 : List Loc), pj_P B A K z2 H2 lo2 → pj_W K H2 lo2 q ls (.long r :: st)) : pj_W K H lo pc ls (As.reverse ++ .ref (B.2.1 k) :: st) := by
  obtain ⟨d, rfl⟩ := d
  obtain ⟨g1, g2, g3, g4, g5, g6, g7, g8⟩ := g
  have hts := C.2.2.2.2.1
  refine va_calll (va_runV (C := y.cls) (As := As) (rest := st) ⟨C.1, C.2.1, C.2.2.1, C.2.2.2.1, hts⟩ (hM H.size) ⟨callB_of na hts (pj_good g5) rfl rfl rfl (hts _ g4) (hts _ g1) ⟨g6, g7, g8⟩ (pj_room C hl hn), hts _ g2, hts _ g3⟩ ⟨pj_Pre.blind, va_recv C.2.2.2.2.2.1.1 P.1 hc (pj_wg hk), fun U hU hW => pj_pre C P hU hW _⟩ rfl hna hls rfl (lv_room hst) d C.2.2.2.2.2.2.2.2.2.1) P.2 (fun x _ h => pj_area C P x h) (pj_area C P) (fun r2 u t H1 lo1 ht hvm hp hB hz hk hS => ?_)
  obtain ⟨rfl, rfl⟩ := hp
  exact kk H1 lo1 ⟨by rw [← ht]; exact hB, hS⟩
set_option maxHeartbeats 2000000 in
theorem pj_cSl {B : pj_B} {A : Nat → Prop} {K : pj_K} {cc : ByteArray} {nL : Nat} {own : String} {lvl : Nat} {H : Heap} {lo : List Loc} {ls : Array Slot} {st : List Value} {pc q : Nat} {y : MethodName} {c2 : ByteArray} {n2 lv2 na idx : Nat} {ret : Option FieldType} {z z2 : pj_S} {r : Int64} (As : List Value) (C : pj_C B A K cc nL own lvl) (P : pj_P B A K z H lo) (hM : pj_Ml K.2.1 y c2 n2 ret lv2 As B z r z2) (g : pj_gS own idx y c2 n2 ret na) (hna : As.length = na) (hl : lv2 + 1 ≤ lvl) (hn : n2 ≤ 45) (hls : ls.size = nL) (hst : (st.map fun v => v.category).sum ≤ 8) (d : pj_d cc pc (.invokestatic idx) 3 q) (kk : ∀ (H2 : Heap) (lo2 : List Loc), pj_P B A K z2 H2 lo2 → pj_W K H2 lo2 q ls (.long r :: st)) : pj_W K H lo pc ls (As.reverse ++ st) := by
  obtain ⟨d, rfl⟩ := d
  obtain ⟨g1, g2, g4, g5, g6, g7, g8⟩ := g
  have hts := C.2.2.2.2.1
  refine va_calll (va_runS (As := As) (rest := st) ⟨C.1, C.2.1, C.2.2.1, C.2.2.2.1, hts⟩ (hM H.size) ⟨callB_of na hts (pj_good g5) rfl rfl rfl (hts _ g4) (hts _ g1) ⟨g6, g7, g8⟩ (pj_room C hl hn), hts _ g2⟩ ⟨pj_Pre.blind, fun U hU hW => pj_pre C P hU hW _⟩ rfl hna hls rfl (lv_room hst) d C.2.2.2.2.2.2.2.2.2.1) P.2 (fun x _ h => pj_area C P x h) (pj_area C P) (fun r2 u t H1 lo1 ht hvm hp hB hz hk hS => ?_)
  obtain ⟨rfl, rfl⟩ := hp
  exact kk H1 lo1 ⟨by rw [← ht]; exact hB, hS⟩
set_option maxHeartbeats 2000000 in
theorem pj_cNl {B : pj_B} {A : Nat → Prop} {K : pj_K} {cc : ByteArray} {nL : Nat} {own : String} {lvl : Nat} {H : Heap} {lo : List Loc} {ls : Array Slot} {st : List Value} {pc q : Nat} {y : MethodName} {c2 : ByteArray} {n2 lv2 na idx : Nat} {ret : Option FieldType} {z z2 : pj_S} {r : Int64} (As : List Value) (C : pj_C B A K cc nL own lvl) (P : pj_P B A K z H lo) (hM : pj_Ml K.2.1 y c2 n2 ret lv2 As B z r z2) (g : pj_gN own idx y c2 n2 ret na) (hna : As.length = na) (hl : lv2 + 1 ≤ lvl) (hn : n2 ≤ 45) (hls : ls.size = nL) (hst : (st.map fun v => v.category).sum ≤ 8) (d : pj_d cc pc (.invokestatic idx) 3 q) (kk : ∀ (H2 : Heap) (lo2 : List Loc), pj_P B A K z2 H2 lo2 → pj_W K H2 lo2 q ls (.long r :: st)) : pj_W K H lo pc ls (As.reverse ++ st) := by
  obtain ⟨d, rfl⟩ := d
  obtain ⟨g1, g2, g4, g5, g6, g7, g8⟩ := g
  have hts := C.2.2.2.2.1
  refine va_calll (va_runSN (As := As) (rest := st) ⟨C.1, C.2.1, C.2.2.1, C.2.2.2.1, hts⟩ (hM H.size) ⟨va_cnB na hts (pj_good g5) rfl rfl rfl (C.2.2.2.2.2.1.2.1 _ g1) (hts _ g4) ⟨g6, g7, g8⟩ (pj_room C hl hn), hts _ g2, trivial⟩ ⟨pj_Pre.blind, fun U hU hW => pj_pre C P hU hW _⟩ rfl hna hls rfl (lv_room hst) d C.2.2.2.2.2.2.2.2.2.1) P.2 (fun x _ h => pj_area C P x h) (pj_area C P) (fun r2 u t H1 lo1 ht hvm hp hB hz hk hS => ?_)
  obtain ⟨rfl, rfl⟩ := hp
  exact kk H1 lo1 ⟨by rw [← ht]; exact hB, hS⟩
set_option maxHeartbeats 2000000 in
theorem pj_cVv {B : pj_B} {A : Nat → Prop} {K : pj_K} {cc : ByteArray} {nL : Nat} {own : String} {lvl : Nat} {H : Heap} {lo : List Loc} {ls : Array Slot} {st : List Value} {pc q : Nat} {y : MethodName} {c2 : ByteArray} {n2 lv2 na idx : Nat} {ret : Option FieldType} {z z2 : pj_S} {r : Unit} {ci : Nat} {l : List (Nat × Nat)} {T : u_T} {N : Nat} (As : List Value) (C : pj_C B A K cc nL own lvl) (P : pj_P B A K z H lo) (k : Nat) (hk : B.2.2.2.1[k]? = some (.inl (ci, l))) (hc : vwCl[ci]? = some (y.cls, T, N)) (hM : pj_Mv K.2.1 y c2 n2 ret lv2 (.ref (B.2.1 k) :: As) B z r z2) (g : pj_gV own idx y c2 n2 ret na) (hna : As.length = na) (hl : lv2 + 1 ≤ lvl) (hn : n2 ≤ 45) (hls : ls.size = nL) (hst : (st.map fun v => v.category).sum ≤ 8) (d : pj_d cc pc (.invokevirtual idx) 3 q) (kk : ∀ (H2 : Heap) (lo2 : List Loc), pj_P B A K z2 H2 lo2 → pj_W K H2 lo2 q ls st) : pj_W K H lo pc ls (As.reverse ++ .ref (B.2.1 k) :: st) := by
  obtain ⟨d, rfl⟩ := d
  obtain ⟨g1, g2, g3, g4, g5, g6, g7, g8⟩ := g
  have hts := C.2.2.2.2.1
  refine va_callv (va_runV (C := y.cls) (As := As) (rest := st) ⟨C.1, C.2.1, C.2.2.1, C.2.2.2.1, hts⟩ (hM H.size) ⟨callB_of na hts (pj_good g5) rfl rfl rfl (hts _ g4) (hts _ g1) ⟨g6, g7, g8⟩ (pj_room C hl hn), hts _ g2, hts _ g3⟩ ⟨pj_Pre.blind, va_recv C.2.2.2.2.2.1.1 P.1 hc (pj_wg hk), fun U hU hW => pj_pre C P hU hW _⟩ rfl hna hls rfl (lv_room hst) d C.2.2.2.2.2.2.2.2.2.1) P.2 (fun x _ h => pj_area C P x h) (pj_area C P) (fun u t H1 lo1 ht hvm hp hB hz hk hS => ?_)
  subst hp
  exact kk H1 lo1 ⟨by rw [← ht]; exact hB, hS⟩
set_option maxHeartbeats 2000000 in
theorem pj_cSv {B : pj_B} {A : Nat → Prop} {K : pj_K} {cc : ByteArray} {nL : Nat} {own : String} {lvl : Nat} {H : Heap} {lo : List Loc} {ls : Array Slot} {st : List Value} {pc q : Nat} {y : MethodName} {c2 : ByteArray} {n2 lv2 na idx : Nat} {ret : Option FieldType} {z z2 : pj_S} {r : Unit} (As : List Value) (C : pj_C B A K cc nL own lvl) (P : pj_P B A K z H lo) (hM : pj_Mv K.2.1 y c2 n2 ret lv2 As B z r z2) (g : pj_gS own idx y c2 n2 ret na) (hna : As.length = na) (hl : lv2 + 1 ≤ lvl) (hn : n2 ≤ 45) (hls : ls.size = nL) (hst : (st.map fun v => v.category).sum ≤ 8) (d : pj_d cc pc (.invokestatic idx) 3 q) (kk : ∀ (H2 : Heap) (lo2 : List Loc), pj_P B A K z2 H2 lo2 → pj_W K H2 lo2 q ls st) : pj_W K H lo pc ls (As.reverse ++ st) := by
  obtain ⟨d, rfl⟩ := d
  obtain ⟨g1, g2, g4, g5, g6, g7, g8⟩ := g
  have hts := C.2.2.2.2.1
  refine va_callv (va_runS (As := As) (rest := st) ⟨C.1, C.2.1, C.2.2.1, C.2.2.2.1, hts⟩ (hM H.size) ⟨callB_of na hts (pj_good g5) rfl rfl rfl (hts _ g4) (hts _ g1) ⟨g6, g7, g8⟩ (pj_room C hl hn), hts _ g2⟩ ⟨pj_Pre.blind, fun U hU hW => pj_pre C P hU hW _⟩ rfl hna hls rfl (lv_room hst) d C.2.2.2.2.2.2.2.2.2.1) P.2 (fun x _ h => pj_area C P x h) (pj_area C P) (fun u t H1 lo1 ht hvm hp hB hz hk hS => ?_)
  subst hp
  exact kk H1 lo1 ⟨by rw [← ht]; exact hB, hS⟩
set_option maxHeartbeats 2000000 in
theorem pj_cNv {B : pj_B} {A : Nat → Prop} {K : pj_K} {cc : ByteArray} {nL : Nat} {own : String} {lvl : Nat} {H : Heap} {lo : List Loc} {ls : Array Slot} {st : List Value} {pc q : Nat} {y : MethodName} {c2 : ByteArray} {n2 lv2 na idx : Nat} {ret : Option FieldType} {z z2 : pj_S} {r : Unit} (As : List Value) (C : pj_C B A K cc nL own lvl) (P : pj_P B A K z H lo) (hM : pj_Mv K.2.1 y c2 n2 ret lv2 As B z r z2) (g : pj_gN own idx y c2 n2 ret na) (hna : As.length = na) (hl : lv2 + 1 ≤ lvl) (hn : n2 ≤ 45) (hls : ls.size = nL) (hst : (st.map fun v => v.category).sum ≤ 8) (d : pj_d cc pc (.invokestatic idx) 3 q) (kk : ∀ (H2 : Heap) (lo2 : List Loc), pj_P B A K z2 H2 lo2 → pj_W K H2 lo2 q ls st) : pj_W K H lo pc ls (As.reverse ++ st) := by
  obtain ⟨d, rfl⟩ := d
  obtain ⟨g1, g2, g4, g5, g6, g7, g8⟩ := g
  have hts := C.2.2.2.2.1
  refine va_callv (va_runSN (As := As) (rest := st) ⟨C.1, C.2.1, C.2.2.1, C.2.2.2.1, hts⟩ (hM H.size) ⟨va_cnB na hts (pj_good g5) rfl rfl rfl (C.2.2.2.2.2.1.2.1 _ g1) (hts _ g4) ⟨g6, g7, g8⟩ (pj_room C hl hn), hts _ g2, trivial⟩ ⟨pj_Pre.blind, fun U hU hW => pj_pre C P hU hW _⟩ rfl hna hls rfl (lv_room hst) d C.2.2.2.2.2.2.2.2.2.1) P.2 (fun x _ h => pj_area C P x h) (pj_area C P) (fun u t H1 lo1 ht hvm hp hB hz hk hS => ?_)
  subst hp
  exact kk H1 lo1 ⟨by rw [← ht]; exact hB, hS⟩
end
section
theorem pj_tst : 1 = 1 := rfl
end
